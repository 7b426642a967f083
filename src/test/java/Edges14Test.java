/** Promise 14, waitsFor: each sentence that names an edge, by itself. */
public final class Edges14Test {
    public static void main(String[] args) {
        Due.sentence("0 if t is not in 0..T-1", Edges14Test::noFirst);
        Due.sentence("0 if u is not in 0..T-1", Edges14Test::noSecond);
        Due.sentence("0 if t == u;", Edges14Test::same);
        Due.sentence("otherwise 2 if there is a reported edge from t to u, by any lock;", Edges14Test::byAnyLock);
        Due.sentence("otherwise 1 if there is an edge from t to u;", Edges14Test::notReported);
        Due.sentence("otherwise 0.", Edges14Test::noEdge);
        Due.sentence("Only single edges count here, not longer paths.", Edges14Test::singleEdges);
        Due.sentence("It changes nothing.", Edges14Test::changesNothing);
        Due.end();
    }

    /** Each waits for all that come before it in number, at one lock. */
    private static ProbeDeadlock row(int n, boolean reported) {
        ProbeDeadlock x = new ProbeDeadlock(n, 1, 1);
        for (int t = 0; t < n; t++) {
            Due.is("begin", x.begin(t, 5), true);
        }
        Due.granted(x, 0, 0);
        for (int t = 1; t < n; t++) {
            Due.queued(x, t, 0);
        }
        if (reported) {
            Due.is("settle()", x.settle(), 0);
        }
        return x;
    }

    private static void noFirst() {
        for (int n = 2; n <= 8; n++) {
            for (boolean reported : new boolean[] {false, true}) {
                ProbeDeadlock x = row(n, reported);
                for (int t : Edge.outside(n)) {
                    for (int u = 0; u < n; u++) {
                        Due.is("waitsFor(" + t + ", " + u + ") with T " + n, x.waitsFor(t, u), 0);
                    }
                }
            }
        }
    }

    private static void noSecond() {
        for (int n = 2; n <= 8; n++) {
            for (boolean reported : new boolean[] {false, true}) {
                ProbeDeadlock x = row(n, reported);
                for (int u : Edge.outside(n)) {
                    for (int t = 0; t < n; t++) {
                        Due.is("waitsFor(" + t + ", " + u + ") with T " + n, x.waitsFor(t, u), 0);
                    }
                }
            }
        }
    }

    private static void same() {
        for (boolean reported : new boolean[] {false, true}) {
            ProbeDeadlock x = row(8, reported);
            for (int t = 0; t < 8; t++) {
                Due.is("waitsFor(" + t + ", " + t + ")", x.waitsFor(t, t), 0);
            }
            for (int t : Edge.outside(8)) {
                Due.is("waitsFor(" + t + ", " + t + ")", x.waitsFor(t, t), 0);
            }
        }
        // Also on a cycle.
        ProbeDeadlock y = Edge.allForAll(1, 1, 2, 3);
        for (int t = 0; t < 3; t++) {
            Due.is("waitsFor(" + t + ", " + t + ") on a cycle", y.waitsFor(t, t), 0);
        }
    }

    private static void byAnyLock() {
        for (int l = 0; l < 12; l++) {
            // Of all twelve locks by which 1 waits for 0, this one alone is reported.
            ProbeDeadlock x = new ProbeDeadlock(3, 12, 1);
            Due.begin(x, 5, 6, 7);
            Due.granted(x, 0, l);
            Due.queued(x, 1, l);
            Due.is("settle()", x.settle(), 0);
            for (int other = 0; other < 12; other++) {
                if (other != l) {
                    Due.granted(x, 0, other);
                    Due.queued(x, 1, other);
                }
            }
            Due.is("waitsFor(1, 0), reported by " + l, x.waitsFor(1, 0), 2);
            Due.is("drop(1, " + l + ")", x.drop(1, l), 4);
            Due.is("waitsFor(1, 0), not reported", x.waitsFor(1, 0), 1);
        }
        ProbeDeadlock y = row(8, true);
        for (int t = 1; t < 8; t++) {
            for (int u = 0; u < t; u++) {
                Due.is("waitsFor(" + t + ", " + u + ")", y.waitsFor(t, u), 2);
            }
        }
    }

    private static void notReported() {
        for (int l = 0; l < 12; l++) {
            ProbeDeadlock x = new ProbeDeadlock(3, 12, 4);
            Due.begin(x, 5, 6, 7);
            Due.granted(x, 0, l);
            Due.queued(x, 1, l);
            Due.is("waitsFor(1, 0)", x.waitsFor(1, 0), 1);
            Due.is("report by another site", x.report((l + 1) % 4), 0);
            Due.is("waitsFor(1, 0)", x.waitsFor(1, 0), 1);
            Due.is("report", x.report(l % 4), 0);
            Due.queued(x, 2, l);
            Due.is("waitsFor(2, 0), others reported", x.waitsFor(2, 0), 1);
            Due.is("waitsFor(2, 1), others reported", x.waitsFor(2, 1), 1);
        }
        ProbeDeadlock y = row(8, false);
        for (int t = 1; t < 8; t++) {
            for (int u = 0; u < t; u++) {
                Due.is("waitsFor(" + t + ", " + u + ")", y.waitsFor(t, u), 1);
            }
        }
    }

    private static void noEdge() {
        ProbeDeadlock start = new ProbeDeadlock(8, 12, 4);
        for (int t = 0; t < 8; t++) {
            for (int u = 0; u < 8; u++) {
                Due.is("waitsFor(" + t + ", " + u + ") at the start", start.waitsFor(t, u), 0);
            }
        }
        for (boolean reported : new boolean[] {false, true}) {
            ProbeDeadlock x = row(8, reported);
            for (int t = 0; t < 8; t++) {
                for (int u = t; u < 8; u++) {
                    Due.is("waitsFor(" + t + ", " + u + ") to one behind", x.waitsFor(t, u), 0);
                }
            }
        }
        ProbeDeadlock x = Edge.rich();
        for (int t : new int[] {2, 3, 5}) {
            for (int u = 0; u < 6; u++) {
                Due.is("waitsFor(" + t + ", " + u + ") of one not live", x.waitsFor(t, u), 0);
                Due.is("waitsFor(" + u + ", " + t + ") for one not live", x.waitsFor(u, t), 0);
            }
        }
    }

    private static void singleEdges() {
        for (boolean reported : new boolean[] {false, true}) {
            ProbeDeadlock x = Edge.ring(1, 1, 2, 3, 4, 5, 6, 7, 8);
            Due.is("drop(7, 0)", x.drop(7, 0), 4);
            if (reported) {
                Due.is("settle()", x.settle(), 0);
            }
            for (int t = 0; t < 8; t++) {
                for (int u = 0; u < 8; u++) {
                    Due.is("waitsFor(" + t + ", " + u + ") in a chain", x.waitsFor(t, u),
                        u != t + 1 ? 0 : reported ? 2 : 1);
                }
            }
        }
    }

    private static void changesNothing() {
        Edge.changesNothing(Edge.WAITS_FOR);
    }
}
