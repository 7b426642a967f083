/** Promise 14: waitsFor. */
public final class Promise14Test {
    public static void main(String[] args) {
        ProbeDeadlock x = new ProbeDeadlock(5, 4, 2);
        Due.begin(x, 10, 20, 30, 40);
        due(x, "00000 00000 00000 00000 00000");
        Due.granted(x, 0, 0, 1);
        Due.queued(x, 1, 0);
        due(x, "00000 10000 00000 00000 00000");
        Due.queued(x, 2, 0);
        due(x, "00000 10000 11000 00000 00000");
        Due.is("report(0)", x.report(0), 0);
        due(x, "00000 20000 22000 00000 00000");
        // The mark of 3 is its own, whatever marks stand before it.
        Due.queued(x, 3, 0);
        due(x, "00000 20000 22000 11100 00000");
        // A second edge that is not reported does not hide the reported one.
        Due.queued(x, 1, 1);
        due(x, "00000 20000 22000 11100 00000");
        // Paths are not edges: 0 waits for 3, and 3 for 0, 1 and 2.
        Due.granted(x, 3, 3);
        Due.queued(x, 0, 3);
        due(x, "00010 20000 22000 11100 00000");
        wrongInputs(x);
        Due.is("drop(1, 0)", x.drop(1, 0), 4);
        due(x, "00010 10000 20000 10100 00000");
        Due.is("drop(0, 0)", x.drop(0, 0), 3);
        due(x, "00010 10000 00000 00100 00000");
        Due.is("abort(0)", x.abort(0), true);
        due(x, "00000 00000 00000 00100 00000");
        reportedByTheHigherLockAlone();
        Due.end();
    }

    private static void wrongInputs(ProbeDeadlock x) {
        String before = Due.all(x);
        for (int n : Due.FAR_OUT) {
            for (int t = 0; t < 5; t++) {
                Due.is("waitsFor(" + n + ", " + t + ")", x.waitsFor(n, t), 0);
                Due.is("waitsFor(" + t + ", " + n + ")", x.waitsFor(t, n), 0);
            }
            Due.is("waitsFor(" + n + ", " + n + ")", x.waitsFor(n, n), 0);
        }
        // 32 more is the same bit of an int.
        Due.is("waitsFor(1, 32)", x.waitsFor(1, 32), 0);
        Due.is("waitsFor(1, 5)", x.waitsFor(1, 5), 0);
        Due.is("after waitsFor", Due.all(x), before);
    }

    private static void reportedByTheHigherLockAlone() {
        ProbeDeadlock x = new ProbeDeadlock(2, 4, 2);
        Due.begin(x, 1, 2);
        Due.granted(x, 0, 0, 1);
        Due.queued(x, 1, 0, 1);
        Due.is("waitsFor(1, 0)", x.waitsFor(1, 0), 1);
        Due.is("report(1)", x.report(1), 0);
        Due.is("waitsFor(1, 0)", x.waitsFor(1, 0), 2);
        Due.is("waitsFor(0, 1)", x.waitsFor(0, 1), 0);
        Due.is("drop(0, 1)", x.drop(0, 1), 3);
        Due.is("waitsFor(1, 0)", x.waitsFor(1, 0), 1);
    }

    /** For each transaction a word, in it a digit for each for whom it may wait. */
    private static void due(ProbeDeadlock x, String edges) {
        for (int t = 0; t < 5; t++) {
            for (int u = 0; u < 5; u++) {
                Due.is("waitsFor(" + t + ", " + u + ")", x.waitsFor(t, u), edges.charAt(t * 6 + u) - '0');
            }
        }
    }
}
