/** Promise 3, request: each sentence that names an edge, by itself. */
public final class Edges03Test {
    public static void main(String[] args) {
        Due.sentence("`REFUSED` if t is not in 0..T-1", Edges03Test::noTransaction);
        Due.sentence("`REFUSED` if l is not in 0..L-1", Edges03Test::noLock);
        Due.sentence("`REFUSED` if t is not live", Edges03Test::notLive);
        Due.sentence("`REFUSED` if t holds l", Edges03Test::holds);
        Due.sentence("`REFUSED` if t is in the queue of l.", Edges03Test::inTheQueue);
        Due.sentence("Otherwise, if l has no holder, t becomes its holder and t's state stays as it is "
            + "(`RUNNING` stays `RUNNING`, `WAITING` stays `WAITING`). The answer is `GRANTED`.",
            Edges03Test::noHolder);
        Due.sentence("Otherwise an entry of t, not reported, is put at the end of the queue of l, "
            + "and t is `WAITING` (whether it was `RUNNING` or `WAITING` before). The answer is `QUEUED`.",
            Edges03Test::atTheEnd);
        Due.sentence("The holder of l and the entries already in the queue, with their order and marks, stay.",
            Edges03Test::entriesStay);
        Due.sentence("A `WAITING` transaction may request further locks.", Edges03Test::furtherLocks);
        Due.sentence("A request never makes a victim, and the list of victims is not changed.", Edges03Test::noVictim);
        Due.sentence("Nothing of other locks or other transactions changes.", Edges03Test::othersStay);
        Due.end();
    }

    private static void noTransaction() {
        for (int n = 2; n <= 8; n++) {
            ProbeDeadlock x = new ProbeDeadlock(n, 3, 2);
            Due.begin(x, 5, 6);
            Due.granted(x, 0, 0);
            Due.queued(x, 1, 0);
            String before = Due.all(x);
            for (int t : Edge.outside(n)) {
                for (int l = 0; l < 3; l++) {
                    Due.is("request(" + t + ", " + l + ") with T " + n, x.request(t, l), 0);
                }
            }
            Due.is("refused requests", Due.all(x), before);
        }
    }

    private static void noLock() {
        for (int n = 1; n <= 12; n++) {
            ProbeDeadlock x = new ProbeDeadlock(3, n, 2);
            Due.begin(x, 5, 6);
            Due.granted(x, 0, n - 1);
            Due.queued(x, 1, n - 1);
            String before = Due.all(x);
            for (int l : Edge.outside(n)) {
                for (int t = 0; t < 3; t++) {
                    Due.is("request(" + t + ", " + l + ") with L " + n, x.request(t, l), 0);
                }
            }
            Due.is("refused requests", Due.all(x), before);
        }
    }

    private static void notLive() {
        ProbeDeadlock x = Edge.rich();
        Due.is("begin(5, 5)", x.begin(5, 5), true);
        Due.is("abort(5)", x.abort(5), true);
        String before = Due.all(x);
        for (int l = 0; l < 7; l++) {
            Due.is("request by a VICTIM", x.request(2, l), 0);
            Due.is("request after a commit", x.request(3, l), 0);
            Due.is("request after an abort", x.request(5, l), 0);
            Due.is("request by one not begun", Edge.rich().request(5, l), 0);
        }
        Due.is("refused requests", Due.all(x), before);
    }

    private static void holds() {
        for (int l = 0; l < 12; l++) {
            ProbeDeadlock x = new ProbeDeadlock(3, 12, 4);
            Due.begin(x, 5, 6, 7);
            Due.granted(x, 1, l);
            String before = Due.all(x);
            Due.is("request by the RUNNING holder", x.request(1, l), 0);
            Due.is("refused request", Due.all(x), before);
            Due.granted(x, 2, (l + 1) % 12);
            Due.queued(x, 1, (l + 1) % 12);
            Due.queued(x, 0, l);
            before = Due.all(x);
            Due.is("request by the WAITING holder", x.request(1, l), 0);
            Due.is("refused request", Due.all(x), before);
        }
    }

    private static void inTheQueue() {
        for (int l = 0; l < 12; l++) {
            ProbeDeadlock x = new ProbeDeadlock(8, 12, 4);
            Due.begin(x, 5, 5, 5, 5, 5, 5, 5, 5);
            Due.granted(x, 3, l);
            for (int t : new int[] {7, 0, 6, 1, 5, 2, 4}) {
                Due.queued(x, t, l);
                String before = Due.all(x);
                Due.is("request(" + t + ", " + l + ") again", x.request(t, l), 0);
                Due.is("request(7, " + l + ") again", x.request(7, l), 0);
                Due.is("refused requests", Due.all(x), before);
            }
            Due.is("settle()", x.settle(), 0);
            String before = Due.all(x);
            for (int t = 0; t < 8; t++) {
                Due.is("request(" + t + ", " + l + ") when reported", x.request(t, l), 0);
            }
            Due.is("refused requests", Due.all(x), before);
        }
    }

    private static void noHolder() {
        for (int l = 0; l < 12; l++) {
            for (int t = 0; t < 8; t++) {
                ProbeDeadlock x = new ProbeDeadlock(8, 12, 4);
                Due.begin(x, 5, 5, 5, 5, 5, 5, 5, 5);
                Due.is("request by a RUNNING one", x.request(t, l), ProbeDeadlock.GRANTED);
                Due.is("holder(" + l + ")", x.holder(l), t);
                Due.is("state(" + t + ")", x.state(t), ProbeDeadlock.RUNNING);
                Due.queue(x, l);
                Due.is("drop", x.drop(t, l), 3);
                int other = (t + 1) % 8;
                Due.granted(x, other, (l + 1) % 12);
                Due.queued(x, t, (l + 1) % 12);
                Due.is("request by a WAITING one", x.request(t, l), ProbeDeadlock.GRANTED);
                Due.is("holder(" + l + ")", x.holder(l), t);
                Due.is("state(" + t + ")", x.state(t), ProbeDeadlock.WAITING);
                Due.queue(x, l);
                Due.queue(x, (l + 1) % 12, t);
            }
        }
    }

    private static void atTheEnd() {
        for (int l = 0; l < 12; l++) {
            ProbeDeadlock x = new ProbeDeadlock(8, 12, 4);
            Due.begin(x, 5, 5, 5, 5, 5, 5, 5, 5);
            Due.granted(x, 0, l, (l + 1) % 12);
            Due.queued(x, 4, (l + 1) % 12);
            int[] order = {6, 4, 1, 7, 2, 5, 3};
            for (int i = 0; i < 7; i++) {
                Due.is("state before", x.state(order[i]), order[i] == 4 ? 2 : 1);
                Due.is("request(" + order[i] + ", " + l + ")", x.request(order[i], l), ProbeDeadlock.QUEUED);
                Due.is("state after", x.state(order[i]), ProbeDeadlock.WAITING);
                Due.is("the last in the queue", x.waiter(l, i), order[i]);
                Due.is("behind the last", x.waiter(l, i + 1), -1);
                Due.is("reported", x.reported(order[i], l), false);
                Due.is("report", x.report(l % 4), 0);
                Due.is("reported", x.reported(order[i], l), true);
            }
        }
    }

    private static void entriesStay() {
        for (int marked = 0; marked <= 5; marked++) {
            ProbeDeadlock x = new ProbeDeadlock(8, 12, 4);
            Due.begin(x, 5, 5, 5, 5, 5, 5, 5, 5);
            Due.granted(x, 0, 7);
            int[] order = {6, 4, 1, 7, 2, 5, 3};
            for (int i = 0; i < 7; i++) {
                Due.queued(x, order[i], 7);
                if (i + 1 == marked) {
                    Due.is("report(3)", x.report(3), 0);
                }
                Due.is("holder(7)", x.holder(7), 0);
                for (int j = 0; j <= i; j++) {
                    Due.is("waiter(7, " + j + ")", x.waiter(7, j), order[j]);
                    Due.is("reported", x.reported(order[j], 7), i + 1 >= marked && j < marked);
                }
            }
        }
    }

    private static void furtherLocks() {
        ProbeDeadlock x = new ProbeDeadlock(3, 12, 4);
        Due.begin(x, 5, 5, 5);
        for (int l = 0; l < 12; l += 2) {
            Due.granted(x, 0, l);
        }
        for (int l = 0; l < 12; l++) {
            Due.is("request(1, " + l + ")", x.request(1, l), l % 2 == 0 ? 2 : 1);
            Due.is("state(1)", x.state(1), ProbeDeadlock.WAITING);
        }
        for (int l = 0; l < 12; l++) {
            Due.is("holder(" + l + ")", x.holder(l), l % 2);
            Due.is("waiter(" + l + ", 0)", x.waiter(l, 0), l % 2 == 0 ? 1 : -1);
        }
    }

    private static void noVictim() {
        // A request that closes a cycle, all of whose other edges are reported, for rings of every length.
        for (int n = 2; n <= 7; n++) {
            ProbeDeadlock x = new ProbeDeadlock(8, 12, 1);
            Due.begin(x, 50, 51, 52, 53, 54, 55, 56, 57);
            Due.granted(x, 7, 11);
            Due.granted(x, 0, 10);
            Due.queued(x, 7, 10);
            Due.queued(x, 0, 11);
            Due.is("settle()", x.settle(), 1);
            Due.victims(x, 0);
            Due.is("begin(0, 1)", x.begin(0, 1), true);
            for (int t = 0; t < n; t++) {
                Due.granted(x, t, t);
            }
            for (int t = 0; t < n; t++) {
                Due.queued(x, t, (t + 1) % n);
                Due.victims(x, 0);
            }
            Due.is("a refused request", x.request(0, 0), 0);
            Due.victims(x, 0);
            for (int t = 0; t < n; t++) {
                Due.is("state(" + t + ")", x.state(t), 2);
            }
        }
        closingEdgeAlone();
    }

    private static void closingEdgeAlone() {
        ProbeDeadlock x = new ProbeDeadlock(3, 3, 1);
        Due.begin(x, 1, 2, 3);
        for (int t = 0; t < 3; t++) {
            Due.granted(x, t, t);
        }
        Due.queued(x, 0, 1);
        Due.queued(x, 1, 2);
        Due.is("settle()", x.settle(), 0);
        Due.queued(x, 2, 0);
        Due.victims(x);
        Due.states(x, 2, 2, 2);
    }

    private static void othersStay() {
        // Its last two requests, for locks 0 and 3, left the mark of 1 at lock 0.
        Due.marks(Edge.rich(), 0, 1);
        for (int t : new int[] {0, 1, 4}) {
            for (int l = 0; l < 7; l++) {
                ProbeDeadlock x = Edge.rich();
                String locks = Edge.locksBut(x, l);
                String others = Edge.transactionsBut(x, t);
                int priority = x.priority(t);
                x.request(t, l);
                Due.is("other locks after request(" + t + ", " + l + ")", Edge.locksBut(x, l), locks);
                Due.is("other transactions after request(" + t + ", " + l + ")", Edge.transactionsBut(x, t), others);
                Due.is("priority(" + t + ")", x.priority(t), priority);
            }
        }
    }
}
