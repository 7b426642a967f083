/** Terms, Locks and queues, Passing on, Ending: each sentence that names an edge, by itself. */
public final class EdgesOfQueuesTest {
    private static final int[][] ORDERS = {
        {1, 2, 3, 4, 5, 6, 7}, {7, 6, 5, 4, 3, 2, 1}, {3, 1, 7, 5, 2, 6, 4}, {2, 7, 1, 6, 3, 5, 4},
    };

    public static void main(String[] args) {
        Due.sentence("Each lock has at most one holder and a queue of waiting transactions, first come first.",
            EdgesOfQueuesTest::firstComeFirst);
        Due.sentence("A transaction may hold many locks, and may wait for many locks at the same time.",
            EdgesOfQueuesTest::manyLocks);
        Due.sentence("It is never twice in one queue, and never in the queue of a lock it holds.",
            EdgesOfQueuesTest::neverTwice);
        Due.sentence("A lock without a holder has an empty queue.", EdgesOfQueuesTest::noHolderNoQueue);
        Due.sentence("A queue has at most T-1 entries, so it is never full.", EdgesOfQueuesTest::neverFull);
        Due.sentence("A new entry is not reported.", EdgesOfQueuesTest::newEntries);
        Due.sentence("If its queue is empty, the lock is left without a holder.", EdgesOfQueuesTest::emptyQueue);
        Due.sentence("Otherwise the first entry is taken from the queue (its mark is gone with it), "
            + "and its transaction is the new holder;", EdgesOfQueuesTest::firstEntry);
        Due.sentence("if that transaction now waits for no lock at all, it becomes `RUNNING`, "
            + "otherwise it stays `WAITING`.", EdgesOfQueuesTest::stateOfTheNewHolder);
        Due.sentence("The other entries keep their order and their marks.", EdgesOfQueuesTest::othersStay);
        Due.sentence("First each entry of t is taken from the queue it is in; "
            + "the other entries keep order and marks.", EdgesOfQueuesTest::entriesOfTheEnded);
        Due.sentence("Then each lock held by t, in ascending order of lock numbers, is passed on.",
            EdgesOfQueuesTest::locksOfTheEnded);
        Due.sentence("Afterwards t holds nothing, waits for nothing, and is not live.",
            EdgesOfQueuesTest::nothingIsLeft);
        Due.end();
    }

    private static void firstComeFirst() {
        for (int[] order : ORDERS) {
            ProbeDeadlock x = new ProbeDeadlock(8, 1, 1);
            Due.begin(x, 9, 8, 7, 6, 5, 4, 3, 2);
            Due.granted(x, 0, 0);
            for (int t : order) {
                Due.queued(x, t, 0);
                Due.holders(x, 0);
            }
            Due.queue(x, 0, order);
            int holder = 0;
            for (int t : order) {
                Due.is("drop(" + holder + ", 0)", x.drop(holder, 0), 3);
                Due.holders(x, t);
                holder = t;
            }
            Due.is("drop(" + holder + ", 0)", x.drop(holder, 0), 3);
            Due.holders(x, -1);
        }
    }

    private static void manyLocks() {
        ProbeDeadlock x = new ProbeDeadlock(8, 12, 4);
        Due.begin(x, 1, 2, 3, 4, 5, 6, 7, 8);
        for (int l = 0; l < 12; l++) {
            Due.granted(x, 7, l);
        }
        for (int l = 0; l < 12; l++) {
            Due.queued(x, 0, l);
        }
        for (int l = 0; l < 12; l++) {
            Due.is("holder(" + l + ")", x.holder(l), 7);
            Due.queue(x, l, 0);
        }
        Due.is("commit(7)", x.commit(7), true);
        for (int l = 0; l < 12; l++) {
            Due.is("holder(" + l + ")", x.holder(l), 0);
            Due.queue(x, l);
        }
        Due.is("state(0)", x.state(0), 1);
    }

    private static void neverTwice() {
        for (int l = 0; l < 12; l++) {
            ProbeDeadlock x = new ProbeDeadlock(3, 12, 4);
            Due.begin(x, 1, 2, 3);
            Due.granted(x, 0, l);
            Due.is("request by the holder, empty queue", x.request(0, l), 0);
            Due.queue(x, l);
            Due.queued(x, 1, l);
            Due.is("request by the only waiter", x.request(1, l), 0);
            Due.queued(x, 2, l);
            Due.is("request by the first waiter", x.request(1, l), 0);
            Due.is("request by the last waiter", x.request(2, l), 0);
            Due.is("request by the holder, queue of two", x.request(0, l), 0);
            Due.is("settle()", x.settle(), 0);
            Due.is("request by a reported waiter", x.request(1, l), 0);
            Due.queue(x, l, 1, 2);
            Due.is("drop(0, l)", x.drop(0, l), 3);
            Due.is("request by the new holder", x.request(1, l), 0);
            Due.queue(x, l, 2);
            Due.queued(x, 0, l);
            Due.is("request by the old holder, now a waiter", x.request(0, l), 0);
            Due.queue(x, l, 2, 0);
        }
    }

    private static void noHolderNoQueue() {
        for (String way : Edge.WAYS) {
            for (int waiters = 0; waiters <= 6; waiters++) {
                ProbeDeadlock x = Edge.holderOfFive();
                for (int t = 1; t <= waiters; t++) {
                    Due.queued(x, t, 5);
                }
                Edge.loseFive(x, way);
                for (int t = 1; t <= waiters; t++) {
                    Due.is("holder(5)", x.holder(5), t);
                    Due.is("drop(" + t + ", 5)", x.drop(t, 5), 3);
                }
                Due.is("holder(5) after all, " + way, x.holder(5), -1);
                Due.queue(x, 5);
                Due.is("request of the lock left", x.request(6, 5), 1);
                Due.queue(x, 5);
            }
        }
    }

    private static void neverFull() {
        for (int n = 2; n <= 8; n++) {
            for (int l : new int[] {0, 5, 11}) {
                ProbeDeadlock x = new ProbeDeadlock(n, 12, 4);
                for (int t = 0; t < n; t++) {
                    Due.is("begin", x.begin(t, 50), true);
                }
                Due.granted(x, n - 1, l);
                for (int t = 0; t < n - 1; t++) {
                    Due.queued(x, t, l);
                }
                for (int t = 0; t < n - 1; t++) {
                    Due.is("waiter(" + l + ", " + t + ")", x.waiter(l, t), t);
                }
                Due.is("the place behind T-1 entries", x.waiter(l, n - 1), -1);
                // The queue turns round and round at its greatest length.
                for (int round = 0; round < 3 * n; round++) {
                    int holder = x.holder(l);
                    Due.is("drop", x.drop(holder, l), 3);
                    Due.queued(x, holder, l);
                    Due.is("the last", x.waiter(l, n - 2), holder);
                    Due.is("the new holder", x.holder(l), (holder + 1) % n);
                }
            }
        }
    }

    private static void newEntries() {
        for (int l = 0; l < 12; l++) {
            ProbeDeadlock x = new ProbeDeadlock(4, 12, 3);
            Due.begin(x, 1, 2, 3, 4);
            Due.granted(x, 0, l);
            Due.queued(x, 1, l);
            Due.marks(x, l);
            Due.is("settle()", x.settle(), 0);
            Due.marks(x, l, 1);
            Due.queued(x, 2, l);
            Due.marks(x, l, 1);
            Due.is("drop(1, l)", x.drop(1, l), 4);
            Due.queued(x, 1, l);
            Due.marks(x, l);
            Due.is("settle()", x.settle(), 0);
            Due.marks(x, l, 1, 2);
            // 2 was reported here, holds the lock for a while, and comes back as a new entry; so do 1 and 0.
            Due.is("drop(0, l)", x.drop(0, l), 3);
            Due.is("drop(2, l)", x.drop(2, l), 3);
            Due.queued(x, 2, l);
            Due.queued(x, 0, l);
            Due.marks(x, l);
            Due.is("settle()", x.settle(), 0);
            Due.is("abort(2)", x.abort(2), true);
            Due.is("begin(2, 3)", x.begin(2, 3), true);
            Due.queued(x, 2, l);
            Due.marks(x, l, 0);
        }
        newEntryOfAVictim();
    }

    private static void newEntryOfAVictim() {
        ProbeDeadlock x = Edge.ring(1, 1, 2, 3);
        Due.is("settle()", x.settle(), 1);
        Due.is("begin(0, 1)", x.begin(0, 1), true);
        Due.is("holder(1)", x.holder(1), 1);
        Due.queued(x, 0, 1);
        Due.marks(x, 1);
    }

    private static void emptyQueue() {
        for (String way : Edge.WAYS) {
            ProbeDeadlock x = Edge.holderOfFive();
            Edge.loseFive(x, way);
            Due.is("holder(5), lost by " + way, x.holder(5), -1);
            // One who has left the queue again does not get the lock either.
            ProbeDeadlock y = Edge.holderOfFive();
            Due.queued(y, 3, 5);
            Due.is("drop(3, 5)", y.drop(3, 5), 4);
            Edge.loseFive(y, way);
            Due.is("holder(5), lost by " + way, y.holder(5), -1);
        }
    }

    private static void firstEntry() {
        for (String way : Edge.WAYS) {
            for (int first = 1; first <= 6; first++) {
                ProbeDeadlock x = Edge.holderOfFive();
                Due.queued(x, first, 5);
                Due.queued(x, first % 6 + 1, 5);
                Due.is("report(1)", x.report(1), 0);
                Due.marks(x, 5, first, first % 6 + 1);
                Edge.loseFive(x, way);
                Due.is("holder(5), lost by " + way, x.holder(5), first);
                Due.queue(x, 5, first % 6 + 1);
                Due.marks(x, 5, first % 6 + 1);
                Due.is("waitsFor(first, 0)", x.waitsFor(first, 0), 0);
            }
        }
    }

    private static void stateOfTheNewHolder() {
        for (String way : Edge.WAYS) {
            for (int other = 0; other < 12; other++) {
                if (other != 5 && other != 10) {
                    oneMoreWait(way, other);
                }
            }
            ProbeDeadlock x = Edge.holderOfFive();
            Due.queued(x, 2, 5);
            Due.granted(x, 2, 9);
            Edge.loseFive(x, way);
            Due.is("state(2), who waits for no other, " + way, x.state(2), 1);
        }
    }

    /** 2 waits for lock 5 and for one more, held by 7, when it gets lock 5. */
    private static void oneMoreWait(String way, int other) {
        ProbeDeadlock x = Edge.holderOfFive();
        if (other != 11) {
            Due.granted(x, 7, other);
        }
        Due.queued(x, 2, 5, other);
        Edge.loseFive(x, way);
        Due.is("holder(5)", x.holder(5), 2);
        Due.is("state(2), who waits for " + other + ", " + way, x.state(2), 2);
        Due.is("drop(7, " + other + ")", x.drop(7, other), 3);
        Due.is("state(2) at last", x.state(2), 1);
    }

    private static void othersStay() {
        for (String way : Edge.WAYS) {
            for (int marked = 0; marked <= 6; marked++) {
                ProbeDeadlock x = Edge.holderOfFive();
                int[] order = {4, 2, 6, 1, 5, 3};
                for (int i = 0; i < 6; i++) {
                    if (i == marked) {
                        Due.is("report(1)", x.report(1), 0);
                    }
                    Due.queued(x, order[i], 5);
                }
                if (marked == 6) {
                    Due.is("report(1)", x.report(1), 0);
                }
                Edge.loseFive(x, way);
                Due.queue(x, 5, 2, 6, 1, 5, 3);
                for (int i = 1; i < 6; i++) {
                    Due.is(way + ": reported(" + order[i] + ", 5)", x.reported(order[i], 5), i < marked);
                }
            }
        }
    }

    private static void entriesOfTheEnded() {
        for (int place = 0; place < 4; place++) {
            for (boolean asVictim : new boolean[] {false, true}) {
                outOfTenQueues(place, asVictim);
            }
        }
    }

    /** 0 stands in ten queues behind so many others, ends, and leaves the rest as they were. */
    private static void outOfTenQueues(int place, boolean asVictim) {
        ProbeDeadlock x = new ProbeDeadlock(6, 12, 4);
        Due.begin(x, 1, 50, 51, 52, 53, 54);
        for (int l = 0; l < 11; l++) {
            Due.granted(x, 5, l);
        }
        Due.granted(x, 0, 11);
        for (int l = 0; l < 10; l++) {
            for (int t = 1; t <= 3; t++) {
                if (t - 1 == place) {
                    Due.queued(x, 0, l);
                }
                Due.queued(x, t, l);
                if (t == 2) {
                    Due.is("report", x.report(l % 4), 0);
                }
            }
            if (place == 3) {
                Due.queued(x, 0, l);
            }
        }
        String[] marks = new String[10];
        for (int l = 0; l < 10; l++) {
            marks[l] = marksOfTheOthers(x, l);
        }
        if (asVictim) {
            Due.queued(x, 0, 10);
            Due.queued(x, 5, 11);
            x.report(3);
            x.report(2);
            Due.is("state(0)", x.state(0), 3);
        } else {
            Due.is("abort(0)", x.abort(0), true);
        }
        for (int l = 0; l < 10; l++) {
            Due.queue(x, l, 1, 2, 3);
            Due.is("holder(" + l + ")", x.holder(l), 5);
            Due.is("reported(0, " + l + ")", x.reported(0, l), false);
            // Sites 2 and 3 have reported again meanwhile when 0 is a victim.
            if (!asVictim || l % 4 < 2) {
                Due.is("marks in queue " + l, marksOfTheOthers(x, l), marks[l]);
            }
        }
    }

    private static String marksOfTheOthers(ProbeDeadlock x, int l) {
        return x.reported(1, l) + " " + x.reported(2, l) + " " + x.reported(3, l);
    }

    private static void locksOfTheEnded() {
        for (String how : new String[] {"commit", "abort", "victim"}) {
            ProbeDeadlock x = new ProbeDeadlock(8, 12, 4);
            Due.begin(x, 1, 51, 52, 53, 54, 55, 56, 57);
            Due.granted(x, 7, 11);
            for (int l = 10; l >= 0; l--) {
                Due.granted(x, 0, l);
                if (l > 0) {
                    Due.queued(x, 1 + l % 6, l);
                }
            }
            if (how.equals("victim")) {
                Due.queued(x, 7, 0);
                Due.queued(x, 0, 11);
                Due.is("settle()", x.settle(), 1);
                Due.victims(x, 0);
            } else {
                Due.is(how, how.equals("commit") ? x.commit(0) : x.abort(0), true);
            }
            Due.is("holder(0) after " + how, x.holder(0), how.equals("victim") ? 7 : -1);
            for (int l = 1; l <= 10; l++) {
                Due.is("holder(" + l + ") after " + how, x.holder(l), 1 + l % 6);
                Due.queue(x, l);
            }
            Due.is("holder(11) after " + how, x.holder(11), 7);
        }
    }

    private static void nothingIsLeft() {
        for (String how : new String[] {"commit", "abort", "victim"}) {
            ProbeDeadlock x = Edge.holderOfFive();
            Due.granted(x, 7, 0, 9);
            Due.queued(x, 3, 5);
            if (!how.equals("commit")) {
                Due.queued(x, 0, 0, 9);
            }
            Edge.loseFive(x, how);
            for (int l = 0; l < 12; l++) {
                Due.is("0 holds " + l + " after " + how, x.holder(l) == 0, false);
                Due.is("drop(0, " + l + ") after " + how, x.drop(0, l), 0);
                for (int i = 0; i < 8; i++) {
                    Due.is("0 waits for " + l + " after " + how, x.waiter(l, i) == 0, false);
                }
            }
            for (int u = 0; u < 8; u++) {
                Due.is("waitsFor(0, " + u + ") after " + how, x.waitsFor(0, u), 0);
                Due.is("waitsFor(" + u + ", 0) after " + how, x.waitsFor(u, 0), 0);
            }
            Due.is("priority(0) after " + how, x.priority(0), -1);
            Due.is("state(0) after " + how, x.state(0), how.equals("victim") ? 3 : 0);
            Due.is("request(0, 1) after " + how, x.request(0, 1), 0);
        }
    }
}
