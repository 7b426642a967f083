/** Promise 2, begin: each sentence that names an edge, by itself. */
public final class Edges02Test {
    public static void main(String[] args) {
        Due.sentence("`begin(t, p)` is refused (`false`) if t is not in 0..T-1", Edges02Test::noTransaction);
        Due.sentence("`begin(t, p)` is refused (`false`) if p is not in 0..99", Edges02Test::noPriority);
        Due.sentence("`begin(t, p)` is refused (`false`) if t is live.", Edges02Test::live);
        Due.sentence("Otherwise t is `FREE` or `VICTIM`: t becomes `RUNNING` with priority p, "
            + "and the answer is `true`.", Edges02Test::becomesRunning);
        Due.sentence("t then holds nothing and waits for nothing.", Edges02Test::holdsNothing);
        Due.sentence("The other transactions, the locks, the queues and the marks are not changed.",
            Edges02Test::othersStay);
        Due.sentence("The list of victims is not changed, even if t stands in it.", Edges02Test::listStays);
        Due.end();
    }

    private static void noTransaction() {
        for (int n = 2; n <= 8; n++) {
            ProbeDeadlock x = new ProbeDeadlock(n, 3, 2);
            Due.is("begin(0, 7)", x.begin(0, 7), true);
            String before = Due.all(x);
            for (int t : Edge.outside(n)) {
                Due.is("begin(" + t + ", 0) with T " + n, x.begin(t, 0), false);
                Due.is("begin(" + t + ", 99) with T " + n, x.begin(t, 99), false);
            }
            Due.is("refused begins", Due.all(x), before);
            Due.is("begin(T-1, 9)", x.begin(n - 1, 9), true);
        }
    }

    private static void noPriority() {
        ProbeDeadlock x = Edge.rich();
        String before = Due.all(x);
        for (int p : Edge.outside(100)) {
            for (int t = 0; t < 6; t++) {
                Due.is("begin(" + t + ", " + p + ")", x.begin(t, p), false);
            }
        }
        Due.is("refused begins", Due.all(x), before);
    }

    private static void live() {
        ProbeDeadlock x = Edge.rich();
        String before = Due.all(x);
        for (int p = 0; p <= 99; p++) {
            Due.is("begin(0, " + p + ") of a RUNNING one", x.begin(0, p), false);
            Due.is("begin(1, " + p + ") of a WAITING one", x.begin(1, p), false);
            Due.is("begin(4, " + p + ") of a WAITING one", x.begin(4, p), false);
        }
        Due.is("refused begins", Due.all(x), before);
    }

    private static void becomesRunning() {
        for (int p = 0; p <= 99; p++) {
            ProbeDeadlock x = Edge.rich();
            for (int t : new int[] {2, 3, 5}) {
                Due.is("begin(" + t + ", " + p + ")", x.begin(t, p), true);
                Due.is("state(" + t + ")", x.state(t), ProbeDeadlock.RUNNING);
                Due.is("priority(" + t + ")", x.priority(t), p);
            }
            Due.is("abort(5)", x.abort(5), true);
            Due.is("begin after an abort", x.begin(5, 99 - p), true);
            Due.is("state(5)", x.state(5), ProbeDeadlock.RUNNING);
            Due.is("priority(5)", x.priority(5), 99 - p);
        }
    }

    private static void holdsNothing() {
        for (String way : new String[] {"commit", "abort", "victim"}) {
            ProbeDeadlock x = Edge.holderOfFive();
            Due.queued(x, 3, 5);
            if (!way.equals("commit")) {
                Due.granted(x, 7, 4);
                Due.queued(x, 0, 4);
            }
            Edge.loseFive(x, way);
            Due.is("begin(0, 1)", x.begin(0, 1), true);
            for (int l = 0; l < 12; l++) {
                Due.is("drop(0, " + l + ") after " + way, x.drop(0, l), 0);
                Due.is("holder(" + l + ") is 0 after " + way, x.holder(l) == 0, false);
                Due.is("reported(0, " + l + ") after " + way, x.reported(0, l), false);
                for (int i = 0; i < 8; i++) {
                    Due.is("waiter(" + l + ", " + i + ") is 0 after " + way, x.waiter(l, i) == 0, false);
                }
            }
            for (int u = 1; u < 8; u++) {
                Due.is("waitsFor(0, " + u + ") after " + way, x.waitsFor(0, u), 0);
                Due.is("waitsFor(" + u + ", 0) after " + way, x.waitsFor(u, 0), 0);
            }
        }
    }

    private static void othersStay() {
        for (int t : new int[] {2, 3, 5}) {
            for (int p : new int[] {0, 40, 99}) {
                ProbeDeadlock x = Edge.rich();
                String locks = Edge.locksBut(x, -1);
                String others = Edge.transactionsBut(x, t);
                Due.is("begin(" + t + ", " + p + ")", x.begin(t, p), true);
                Due.is("locks", Edge.locksBut(x, -1), locks);
                Due.is("other transactions", Edge.transactionsBut(x, t), others);
            }
        }
    }

    private static void listStays() {
        ProbeDeadlock x = Edge.allForAll(1, 5, 1, 4, 2, 3);
        Due.is("settle()", x.settle(), 4);
        Due.victims(x, 1, 3, 4, 2);
        for (int t : new int[] {3, 1, 2, 4}) {
            Due.is("begin(" + t + ", 9)", x.begin(t, 9), true);
            Due.victims(x, 1, 3, 4, 2);
        }
        Due.is("commit(0)", x.commit(0), true);
        Due.is("begin of one that is not in it", x.begin(0, 9), true);
        Due.victims(x, 1, 3, 4, 2);
    }
}
