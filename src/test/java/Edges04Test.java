/** Promise 4, drop: each sentence that names an edge, by itself. */
public final class Edges04Test {
    public static void main(String[] args) {
        Due.sentence("`REFUSED` if t is not in 0..T-1", Edges04Test::noTransaction);
        Due.sentence("`REFUSED` if l is not in 0..L-1", Edges04Test::noLock);
        Due.sentence("`REFUSED` if t neither holds l nor is in its queue.", Edges04Test::notThere);
        Due.sentence("If t holds l, the lock is passed on, and t's state stays as it is (also when it is `WAITING`). "
            + "The answer is `RELEASED`.", Edges04Test::released);
        Due.sentence("The transaction that becomes the new holder, if there is one, becomes `RUNNING` "
            + "if it now waits for no lock at all.", Edges04Test::newHolder);
        Due.sentence("If t is in the queue of l, its entry is taken out wherever it stands; "
            + "the other entries keep order and marks, and the holder stays.", Edges04Test::whereverItStands);
        Due.sentence("If t now waits for no lock it becomes `RUNNING`; otherwise it stays `WAITING`. "
            + "The answer is `WITHDRAWN`.", Edges04Test::withdrawn);
        Due.sentence("Other locks and their queues, the priorities and the list of victims are not changed.",
            Edges04Test::othersStay);
        Due.end();
    }

    private static void noTransaction() {
        for (int n = 2; n <= 8; n++) {
            ProbeDeadlock x = new ProbeDeadlock(n, 3, 2);
            Due.begin(x, 5, 6);
            Due.granted(x, 0, 0);
            Due.queued(x, 1, 0);
            String before = Due.all(x);
            for (int t : Edge.outside(n)) {
                for (int l = 0; l < 3; l++) {
                    Due.is("drop(" + t + ", " + l + ") with T " + n, x.drop(t, l), 0);
                }
            }
            Due.is("refused drops", Due.all(x), before);
        }
    }

    private static void noLock() {
        for (int n = 1; n <= 12; n++) {
            ProbeDeadlock x = new ProbeDeadlock(3, n, 2);
            Due.begin(x, 5, 6);
            Due.granted(x, 0, n - 1);
            Due.queued(x, 1, n - 1);
            String before = Due.all(x);
            for (int l : Edge.outside(n)) {
                for (int t = 0; t < 3; t++) {
                    Due.is("drop(" + t + ", " + l + ") with L " + n, x.drop(t, l), 0);
                }
            }
            Due.is("refused drops", Due.all(x), before);
        }
    }

    private static void notThere() {
        ProbeDeadlock x = Edge.rich();
        String before = Due.all(x);
        // What each has to do with locks 0 to 6: h holds, q is in the queue.
        String[] parts = {"h..h...", "qhh...h", ".......", ".......", "q..q...", "......."};
        for (int t = 0; t < 6; t++) {
            for (int l = 0; l < 7; l++) {
                if (parts[t].charAt(l) == '.') {
                    Due.is("drop(" + t + ", " + l + ")", x.drop(t, l), 0);
                    Due.is("refused drop", Due.all(x), before);
                }
            }
        }
        Due.is("drop(4, 3)", x.drop(4, 3), 4);
        Due.is("drop(4, 3) again", x.drop(4, 3), 0);
        Due.is("drop(0, 3)", x.drop(0, 3), 3);
        Due.is("drop(0, 3) again", x.drop(0, 3), 0);
        ProbeDeadlock start = new ProbeDeadlock(8, 12, 4);
        for (int t = 0; t < 8; t++) {
            for (int l = 0; l < 12; l++) {
                Due.is("drop at the start", start.drop(t, l), 0);
            }
        }
    }

    private static void released() {
        for (int l = 0; l < 12; l++) {
            ProbeDeadlock x = new ProbeDeadlock(4, 12, 4);
            Due.begin(x, 5, 6, 7, 8);
            Due.granted(x, 0, l);
            Due.is("drop by a RUNNING holder", x.drop(0, l), ProbeDeadlock.RELEASED);
            Due.is("holder(" + l + ")", x.holder(l), -1);
            Due.is("state(0)", x.state(0), ProbeDeadlock.RUNNING);
            Due.granted(x, 0, l);
            Due.granted(x, 1, (l + 5) % 12);
            Due.queued(x, 0, (l + 5) % 12);
            Due.queued(x, 2, l);
            Due.queued(x, 3, l);
            Due.is("drop by a WAITING holder", x.drop(0, l), ProbeDeadlock.RELEASED);
            Due.is("holder(" + l + ")", x.holder(l), 2);
            Due.queue(x, l, 3);
            Due.states(x, 2, 1, 1, 2);
            Due.queue(x, (l + 5) % 12, 0);
        }
    }

    private static void newHolder() {
        for (int more = 0; more <= 11; more++) {
            // 1 waits for lock 0 and for so many more: it runs when the last is there, not before.
            ProbeDeadlock x = new ProbeDeadlock(2, 12, 4);
            Due.begin(x, 5, 6);
            for (int l = 0; l <= more; l++) {
                Due.granted(x, 0, l);
                Due.queued(x, 1, l);
            }
            for (int l = 0; l <= more; l++) {
                Due.is("state(1) before", x.state(1), ProbeDeadlock.WAITING);
                Due.is("drop(0, " + l + ")", x.drop(0, l), 3);
                Due.is("holder(" + l + ")", x.holder(l), 1);
            }
            Due.is("state(1) after", x.state(1), ProbeDeadlock.RUNNING);
            Due.is("state(0)", x.state(0), ProbeDeadlock.RUNNING);
        }
        ProbeDeadlock y = new ProbeDeadlock(2, 1, 1);
        Due.begin(y, 5, 6);
        Due.granted(y, 0, 0);
        Due.is("drop without a next one", y.drop(0, 0), 3);
        Due.holders(y, -1);
        Due.states(y, 1, 1);
    }

    private static void whereverItStands() {
        int[] order = {6, 4, 1, 7, 2, 5, 3};
        for (int out = 0; out < 7; out++) {
            for (int marked = 0; marked <= 7; marked++) {
                ProbeDeadlock x = new ProbeDeadlock(8, 12, 4);
                Due.begin(x, 5, 5, 5, 5, 5, 5, 5, 5);
                Due.granted(x, 0, 9);
                for (int i = 0; i < 7; i++) {
                    if (i == marked) {
                        Due.is("report(1)", x.report(1), 0);
                    }
                    Due.queued(x, order[i], 9);
                }
                if (marked == 7) {
                    Due.is("report(1)", x.report(1), 0);
                }
                Due.is("drop(" + order[out] + ", 9)", x.drop(order[out], 9), ProbeDeadlock.WITHDRAWN);
                Due.is("holder(9)", x.holder(9), 0);
                Due.is("reported", x.reported(order[out], 9), false);
                for (int i = 0; i < 7; i++) {
                    if (i != out) {
                        Due.is("waiter(9, ..)", x.waiter(9, i < out ? i : i - 1), order[i]);
                        Due.is("reported", x.reported(order[i], 9), i < marked);
                    }
                }
                Due.is("waiter(9, 6)", x.waiter(9, 6), -1);
            }
        }
    }

    private static void withdrawn() {
        for (int waits = 1; waits <= 12; waits++) {
            ProbeDeadlock x = new ProbeDeadlock(2, 12, 4);
            Due.begin(x, 5, 6);
            for (int l = 0; l < waits; l++) {
                Due.granted(x, 0, l);
                Due.queued(x, 1, l);
            }
            for (int l = waits - 1; l >= 0; l--) {
                Due.is("drop(1, " + l + ")", x.drop(1, l), ProbeDeadlock.WITHDRAWN);
                Due.is("state(1)", x.state(1), l == 0 ? ProbeDeadlock.RUNNING : ProbeDeadlock.WAITING);
                Due.is("holder(" + l + ")", x.holder(l), 0);
                Due.queue(x, l);
            }
        }
        // Its own locks do not keep it waiting, and stay with it.
        ProbeDeadlock y = Edge.ring(1, 5, 6);
        Due.is("drop(0, 1)", y.drop(0, 1), ProbeDeadlock.WITHDRAWN);
        Due.states(y, 1, 2);
        Due.holders(y, 0, 1);
    }

    private static void othersStay() {
        int[][] drops = {{0, 0}, {0, 3}, {1, 0}, {1, 1}, {1, 2}, {1, 6}, {4, 0}, {4, 3}};
        for (int[] drop : drops) {
            ProbeDeadlock x = Edge.rich();
            String locks = Edge.locksBut(x, drop[1]);
            String list = Edge.victimList(x);
            String call = "drop(" + drop[0] + ", " + drop[1] + ")";
            Due.is(call + " is refused", x.drop(drop[0], drop[1]) == 0, false);
            Due.is("other locks after " + call, Edge.locksBut(x, drop[1]), locks);
            Due.is("list after " + call, Edge.victimList(x), list);
            int[] priorities = {50, 40, -1, -1, 40, -1};
            for (int t = 0; t < 6; t++) {
                Due.is("priority(" + t + ") after " + call, x.priority(t), priorities[t]);
            }
        }
    }
}
