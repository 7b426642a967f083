/** Promise 8, settle: each sentence that names an edge, by itself. */
public final class Edges08Test {
    public static void main(String[] args) {
        Due.sentence("First every entry in every queue becomes reported;", Edges08Test::everyEntry);
        Due.sentence("then the Resolution is done, one time, for all sites together.", Edges08Test::oneTime);
        Due.sentence("The list of victims is made empty and filled anew.", Edges08Test::filledAnew);
        Due.sentence("The answer is the number of victims, 0 or more.", Edges08Test::numberOfVictims);
        Due.sentence("It is never refused.", Edges08Test::neverRefused);
        Due.sentence("Apart from the marks, the list, and what the ending of the victims brings, nothing changes.",
            Edges08Test::nothingElse);
        Due.end();
    }

    private static void everyEntry() {
        for (int locks = 1; locks <= 12; locks++) {
            for (int sites = 1; sites <= 4; sites++) {
                ProbeDeadlock x = new ProbeDeadlock(8, locks, sites);
                Due.begin(x, 9, 8, 7, 6, 5, 4, 3, 2);
                for (int l = 0; l < locks; l++) {
                    Due.granted(x, 0, l);
                    for (int t = 1; t < 8; t++) {
                        Due.queued(x, t, l);
                    }
                }
                Due.is("settle()", x.settle(), 0);
                for (int l = 0; l < locks; l++) {
                    Due.marks(x, l, 1, 2, 3, 4, 5, 6, 7);
                }
            }
        }
    }

    private static void oneTime() {
        // 1 and 2 wait for each other at site 0; 0, lower, waits for 1 at site 1, and 1 for 0 at site 0.
        // By sites in turn, from 0: 1 would go first, and 0 would never be on a cycle. All together: 0 goes, then 1.
        ProbeDeadlock x = new ProbeDeadlock(3, 6, 2);
        Due.begin(x, 10, 20, 30);
        Due.granted(x, 1, 0, 1);
        Due.granted(x, 2, 2);
        Due.granted(x, 0, 4);
        Due.queued(x, 1, 2, 4);
        Due.queued(x, 2, 0);
        Due.queued(x, 0, 1);
        Due.is("settle()", x.settle(), 2);
        Due.victims(x, 0, 1);
        // The same with the sites changed over: by sites in turn, from the last.
        ProbeDeadlock y = new ProbeDeadlock(3, 6, 2);
        Due.begin(y, 10, 20, 30);
        Due.granted(y, 1, 1, 0);
        Due.granted(y, 2, 3);
        Due.granted(y, 0, 5);
        Due.queued(y, 1, 3, 5);
        Due.queued(y, 2, 1);
        Due.queued(y, 0, 0);
        Due.is("settle()", y.settle(), 2);
        Due.victims(y, 0, 1);
        // Victims of two sites stand in one list.
        ProbeDeadlock z = new ProbeDeadlock(4, 8, 2);
        Due.begin(z, 40, 30, 20, 10);
        Due.granted(z, 0, 0);
        Due.granted(z, 1, 2);
        Due.granted(z, 2, 1);
        Due.granted(z, 3, 3);
        Due.queued(z, 0, 2);
        Due.queued(z, 1, 0);
        Due.queued(z, 2, 3);
        Due.queued(z, 3, 1);
        Due.is("settle()", z.settle(), 2);
        Due.victims(z, 3, 1);
    }

    private static void filledAnew() {
        ProbeDeadlock x = Edge.allForAll(4, 5, 1, 4, 2, 3);
        Due.is("settle()", x.settle(), 4);
        Due.victims(x, 1, 3, 4, 2);
        Due.is("begin(4, 99)", x.begin(4, 99), true);
        Due.is("drop(0, 4)", x.drop(0, 4), 3);
        Due.granted(x, 4, 4);
        Due.queued(x, 4, 0);
        Due.queued(x, 0, 4);
        Due.is("settle()", x.settle(), 1);
        Due.victims(x, 0);
        Due.is("settle()", x.settle(), 0);
        Due.victims(x);
    }

    private static void numberOfVictims() {
        for (int n = 2; n <= 8; n++) {
            int[] priorities = new int[n];
            ProbeDeadlock x = Edge.allForAll(4, priorities);
            Due.is("settle() of " + n, x.settle(), n - 1);
            Due.is("victims()", x.victims(), n - 1);
            Due.is("settle() again", x.settle(), 0);
            Due.is("victims()", x.victims(), 0);
        }
    }

    private static void neverRefused() {
        for (int t = 0; t <= 9; t++) {
            for (int l = 0; l <= 13; l++) {
                for (int s = 0; s <= 5; s++) {
                    ProbeDeadlock x = new ProbeDeadlock(t, l, s);
                    Due.is("settle() at the start", x.settle(), 0);
                    Due.begin(x, 1, 2);
                    Due.is("settle() with all locks free", x.settle(), 0);
                    Due.granted(x, 0, 0);
                    Due.is("settle() with empty queues", x.settle(), 0);
                    Due.queued(x, 1, 0);
                    Due.is("settle() without a cycle", x.settle(), 0);
                    Due.is("abort(0)", x.abort(0), true);
                    Due.is("abort(1)", x.abort(1), true);
                    Due.is("settle() with all FREE", x.settle(), 0);
                }
            }
        }
    }

    private static void nothingElse() {
        ProbeDeadlock x = Edge.rich();
        String transactions = Edge.transactionsBut(x, -1);
        Due.is("settle()", x.settle(), 0);
        Due.is("transactions", Edge.transactionsBut(x, -1), transactions);
        Due.holders(x, 0, 1, 1, 0, -1, -1, 1);
        Due.queue(x, 0, 1, 4);
        Due.queue(x, 3, 4);
        for (int l : new int[] {1, 2, 4, 5, 6}) {
            Due.queue(x, l);
        }
        Due.marks(x, 0, 1, 4);
        Due.marks(x, 3, 4);
        String before = Due.all(x);
        Due.is("settle() again", x.settle(), 0);
        Due.is("settle() again", Due.all(x), before);
    }
}
