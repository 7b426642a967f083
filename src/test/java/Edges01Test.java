/** Promise 1, Construction and the start: each sentence that names an edge, by itself. */
public final class Edges01Test {
    public static void main(String[] args) {
        Due.sentence("`ProbeDeadlock(transactions, locks, sites)` accepts any ints.", Edges01Test::anyInts);
        Due.sentence("T is `transactions` clamped into 2..8: a value below the least becomes the least",
            Edges01Test::tooFewTransactions);
        Due.sentence("T is `transactions` clamped into 2..8: a value above the greatest becomes the greatest",
            Edges01Test::tooManyTransactions);
        Due.sentence("T is `transactions` clamped into 2..8: a value between stays", Edges01Test::transactionsBetween);
        Due.sentence("L is `locks` clamped into 1..12: a value below the least becomes the least",
            Edges01Test::tooFewLocks);
        Due.sentence("L is `locks` clamped into 1..12: a value above the greatest becomes the greatest",
            Edges01Test::tooManyLocks);
        Due.sentence("L is `locks` clamped into 1..12: a value between stays", Edges01Test::locksBetween);
        Due.sentence("S is `sites` clamped into 1..4: a value below the least becomes the least",
            Edges01Test::tooFewSites);
        Due.sentence("S is `sites` clamped into 1..4: a value above the greatest becomes the greatest",
            Edges01Test::tooManySites);
        Due.sentence("S is `sites` clamped into 1..4: a value between stays", Edges01Test::sitesBetween);
        Due.sentence("T, L and S stay fixed from then on.", Edges01Test::stayFixed);
        Due.sentence("At the start all transactions are `FREE`", Edges01Test::allFree);
        Due.sentence("At the start no lock has a holder", Edges01Test::noHolder);
        Due.sentence("At the start all queues are empty", Edges01Test::emptyQueues);
        Due.sentence("At the start the list of victims is empty.", Edges01Test::noVictims);
        Due.end();
    }

    /** How many transactions, locks and sites this object takes: those numbers alone, 0 and up, and no other. */
    private static void sizes(ProbeDeadlock x, String made, int transactions, int locks, int sites) {
        for (int t = -3; t <= 20; t++) {
            boolean there = t >= 0 && t < transactions;
            Due.is(made + "state(" + t + ") is NONE", x.state(t) == -1, !there);
            Due.is(made + "begin(" + t + ", 9)", x.begin(t, 9), there);
        }
        for (int l = -3; l <= 20; l++) {
            boolean there = l >= 0 && l < locks;
            Due.is(made + "request(0, " + l + ")", x.request(0, l), there ? 1 : 0);
            Due.is(made + "request(1, " + l + ")", x.request(1, l), there ? 2 : 0);
        }
        for (int s = -3; s <= 20; s++) {
            boolean there = s >= 0 && s < sites;
            Due.is(made + "report(" + s + ")", x.report(s), there ? 0 : -1);
            if (there) {
                for (int l = 0; l < locks; l++) {
                    Due.is(made + "reported(1, " + l + ")", x.reported(1, l), l % sites <= s);
                }
            }
        }
    }

    private static void anyInts() {
        int[] numbers = {Integer.MIN_VALUE, Integer.MIN_VALUE + 1, -1, 0, 1, 5, 1000, Integer.MAX_VALUE};
        for (int t : numbers) {
            for (int l : numbers) {
                for (int s : numbers) {
                    sizes(new ProbeDeadlock(t, l, s), "new(" + t + ", " + l + ", " + s + ") ",
                        Math.max(2, Math.min(8, t)), Math.max(1, Math.min(12, l)), Math.max(1, Math.min(4, s)));
                }
            }
        }
    }

    private static void tooFewTransactions() {
        for (int n : Edge.outside(2)) {
            if (n < 2) {
                sizes(new ProbeDeadlock(n, 5, 3), "T from " + n + ": ", 2, 5, 3);
            }
        }
        sizes(new ProbeDeadlock(1, 12, 4), "T from 1: ", 2, 12, 4);
        sizes(new ProbeDeadlock(0, 12, 4), "T from 0: ", 2, 12, 4);
    }

    private static void tooManyTransactions() {
        for (int n : Edge.outside(9)) {
            if (n > 8) {
                sizes(new ProbeDeadlock(n, 5, 3), "T from " + n + ": ", 8, 5, 3);
            }
        }
    }

    private static void transactionsBetween() {
        for (int n = 2; n <= 8; n++) {
            sizes(new ProbeDeadlock(n, 5, 3), "T from " + n + ": ", n, 5, 3);
        }
    }

    private static void tooFewLocks() {
        for (int n : Edge.outside(1)) {
            if (n < 1) {
                sizes(new ProbeDeadlock(5, n, 3), "L from " + n + ": ", 5, 1, 3);
            }
        }
        sizes(new ProbeDeadlock(5, 0, 3), "L from 0: ", 5, 1, 3);
    }

    private static void tooManyLocks() {
        for (int n : Edge.outside(13)) {
            if (n > 12) {
                sizes(new ProbeDeadlock(5, n, 3), "L from " + n + ": ", 5, 12, 3);
            }
        }
    }

    private static void locksBetween() {
        for (int n = 1; n <= 12; n++) {
            sizes(new ProbeDeadlock(5, n, 3), "L from " + n + ": ", 5, n, 3);
        }
    }

    private static void tooFewSites() {
        for (int n : Edge.outside(1)) {
            if (n < 1) {
                sizes(new ProbeDeadlock(5, 7, n), "S from " + n + ": ", 5, 7, 1);
            }
        }
        sizes(new ProbeDeadlock(5, 7, 0), "S from 0: ", 5, 7, 1);
    }

    private static void tooManySites() {
        for (int n : Edge.outside(5)) {
            if (n > 4) {
                sizes(new ProbeDeadlock(5, 7, n), "S from " + n + ": ", 5, 7, 4);
            }
        }
        // More sites than locks stay more.
        sizes(new ProbeDeadlock(5, 1, 5), "S from 5: ", 5, 1, 4);
    }

    private static void sitesBetween() {
        for (int n = 1; n <= 4; n++) {
            sizes(new ProbeDeadlock(5, 7, n), "S from " + n + ": ", 5, 7, n);
            sizes(new ProbeDeadlock(2, 1, n), "S from " + n + ": ", 2, 1, n);
        }
    }

    private static void stayFixed() {
        ProbeDeadlock x = new ProbeDeadlock(3, 3, 2);
        new ProbeDeadlock(8, 12, 4);
        new ProbeDeadlock(0, 0, 0);
        for (int round = 0; round < 5; round++) {
            Due.begin(x, 1, 2, 3);
            for (int t = 0; t < 3; t++) {
                Due.granted(x, t, t);
            }
            for (int t = 0; t < 3; t++) {
                Due.queued(x, t, (t + 1) % 3);
            }
            Due.is("settle()", x.settle(), 1);
            for (int n : new int[] {3, 8, 12, Integer.MAX_VALUE}) {
                Due.is("begin(" + n + ", 1)", x.begin(n, 1), false);
                Due.is("request(1, " + n + ")", x.request(1, n), 0);
                Due.is("report(" + n + ")", x.report(n), -1);
            }
            Due.is("report(2)", x.report(2), -1);
            Due.is("report(1)", x.report(1), 0);
            Due.is("abort(1)", x.abort(1), true);
            Due.is("abort(2)", x.abort(2), true);
        }
        sizes(x, "after all ", 3, 3, 2);
    }

    private static ProbeDeadlock[] starts() {
        ProbeDeadlock[] made = new ProbeDeadlock[7 * 12 * 4];
        for (int i = 0; i < made.length; i++) {
            made[i] = new ProbeDeadlock(2 + i % 7, 1 + i / 7 % 12, 1 + i / 84);
        }
        return made;
    }

    private static void allFree() {
        int i = 0;
        for (ProbeDeadlock x : starts()) {
            for (int t = 0; t < 2 + i % 7; t++) {
                Due.is("state(" + t + ")", x.state(t), 0);
                Due.is("priority(" + t + ")", x.priority(t), -1);
                Due.is("commit(" + t + ")", x.commit(t), false);
                Due.is("abort(" + t + ")", x.abort(t), false);
            }
            i++;
        }
    }

    private static void noHolder() {
        for (ProbeDeadlock x : starts()) {
            for (int l = 0; l < 12; l++) {
                Due.is("holder(" + l + ")", x.holder(l), -1);
            }
        }
    }

    private static void emptyQueues() {
        for (ProbeDeadlock x : starts()) {
            for (int l = 0; l < 12; l++) {
                for (int i = 0; i < 8; i++) {
                    Due.is("waiter(" + l + ", " + i + ")", x.waiter(l, i), -1);
                    Due.is("reported(" + i + ", " + l + ")", x.reported(i, l), false);
                }
            }
        }
    }

    private static void noVictims() {
        for (ProbeDeadlock x : starts()) {
            Due.is("victims()", x.victims(), 0);
            for (int k = 0; k < 9; k++) {
                Due.is("victim(" + k + ")", x.victim(k), -1);
            }
        }
    }
}
