/** Promise 15, carries: each sentence that names an edge, by itself. */
public final class Edges15Test {
    public static void main(String[] args) {
        Due.sentence("`carries(u, t)` answers `true` if u carries the probe of t (see Probes in Terms).",
            Edges15Test::carries);
        Due.sentence("Note the order: the carrier comes first.", Edges15Test::order);
        Due.sentence("It answers `false` if u is not in 0..T-1", Edges15Test::noCarrier);
        Due.sentence("It answers `false` if t is not in 0..T-1", Edges15Test::noStarter);
        Due.sentence("It answers `false` if u or t is not live", Edges15Test::notLive);
        Due.sentence("It answers `false` if u == t", Edges15Test::same);
        Due.sentence("and in every other case in which no such path is present.", Edges15Test::noPath);
        Due.sentence("It depends only on the present reported edges and priorities.", Edges15Test::presentOnly);
        Due.sentence("It changes nothing.", Edges15Test::changesNothing);
        Due.end();
    }

    /** Edges 0 -> 1 -> .. -> n-1, each higher than the one before, reported. */
    private static ProbeDeadlock chain(int n) {
        ProbeDeadlock x = new ProbeDeadlock(n, n, 1);
        for (int t = 0; t < n; t++) {
            Due.is("begin", x.begin(t, 10 + t), true);
            Due.granted(x, t, t);
        }
        for (int t = 0; t + 1 < n; t++) {
            Due.queued(x, t, t + 1);
        }
        Due.is("settle()", x.settle(), 0);
        return x;
    }

    private static void carries() {
        for (int n = 2; n <= 8; n++) {
            ProbeDeadlock x = chain(n);
            for (int t = 0; t < n; t++) {
                for (int u = t + 1; u < n; u++) {
                    Due.is("carries(" + u + ", " + t + ")", x.carries(u, t), true);
                }
            }
        }
        // Against the order of the numbers, by priorities 0 to 99 and by places in a queue.
        ProbeDeadlock y = new ProbeDeadlock(8, 1, 1);
        Due.begin(y, 99, 98, 97, 50, 3, 2, 1, 0);
        Due.granted(y, 0, 0);
        for (int t = 1; t < 8; t++) {
            Due.queued(y, t, 0);
        }
        Due.is("settle()", y.settle(), 0);
        for (int t = 0; t < 8; t++) {
            for (int u = 0; u < 8; u++) {
                Due.is("carries(" + u + ", " + t + ")", y.carries(u, t), u < t);
            }
        }
    }

    private static void order() {
        ProbeDeadlock x = chain(2);
        Due.is("carries(1, 0)", x.carries(1, 0), true);
        Due.is("carries(0, 1)", x.carries(0, 1), false);
    }

    private static void noCarrier() {
        for (int n = 2; n <= 8; n++) {
            ProbeDeadlock x = chain(n);
            for (int u : Edge.outside(n)) {
                for (int t = 0; t < n; t++) {
                    Due.is("carries(" + u + ", " + t + ") with T " + n, x.carries(u, t), false);
                }
            }
        }
    }

    private static void noStarter() {
        for (int n = 2; n <= 8; n++) {
            ProbeDeadlock x = chain(n);
            for (int t : Edge.outside(n)) {
                for (int u = 0; u < n; u++) {
                    Due.is("carries(" + u + ", " + t + ") with T " + n, x.carries(u, t), false);
                }
            }
        }
    }

    private static void notLive() {
        ProbeDeadlock x = Edge.rich();
        Due.is("settle()", x.settle(), 0);
        for (int t : new int[] {2, 3, 5}) {
            for (int u = 0; u < 6; u++) {
                Due.is("carries(" + u + ", " + t + ")", x.carries(u, t), false);
                Due.is("carries(" + t + ", " + u + ")", x.carries(t, u), false);
            }
        }
        // Ended in each way, at each end of the edge and between.
        for (int gone = 0; gone < 3; gone++) {
            ProbeDeadlock y = chain(3);
            Due.is("abort(" + gone + ")", y.abort(gone), true);
            for (int u = 0; u < 3; u++) {
                Due.is("carries(" + u + ", " + gone + ") aborted", y.carries(u, gone), false);
                Due.is("carries(" + gone + ", " + u + ") aborted", y.carries(gone, u), false);
            }
        }
        ProbeDeadlock z = chain(3);
        Due.is("commit(2)", z.commit(2), true);
        Due.is("carries(2, 1) committed", z.carries(2, 1), false);
        Due.is("carries(2, 0) committed", z.carries(2, 0), false);
        Due.is("carries(1, 0)", z.carries(1, 0), true);
        ProbeDeadlock v = Edge.ring(1, 1, 2, 3);
        Due.is("settle()", v.settle(), 1);
        Due.is("carries(1, 0) of a VICTIM", v.carries(1, 0), false);
        Due.is("carries(0, 2) by a VICTIM", v.carries(0, 2), false);
    }

    private static void same() {
        for (int t = 0; t < 8; t++) {
            Due.is("carries(" + t + ", " + t + ") at the start", new ProbeDeadlock(8, 12, 4).carries(t, t), false);
            Due.is("carries(" + t + ", " + t + ") in a chain", chain(8).carries(t, t), false);
        }
        // Also on a cycle, before the report that would break it.
        ProbeDeadlock x = Edge.ring(3, 1, 2, 3);
        Due.is("report(0)", x.report(0), 0);
        Due.is("report(1)", x.report(1), 0);
        for (int t = 0; t < 3; t++) {
            Due.is("carries(" + t + ", " + t + ") on a cycle", x.carries(t, t), false);
        }
        for (int t : Edge.outside(3)) {
            Due.is("carries(" + t + ", " + t + ")", x.carries(t, t), false);
        }
    }

    private static void noPath() {
        // No edge, an edge the wrong way, one not reported, one to a lower one, a path over a lower one.
        ProbeDeadlock x = new ProbeDeadlock(6, 6, 2);
        Due.begin(x, 50, 60, 40, 70, 80);
        for (int t = 0; t < 5; t++) {
            Due.granted(x, t, t);
        }
        Due.is("no edge", x.carries(1, 0), false);
        Due.queued(x, 0, 2);
        Due.queued(x, 2, 4);
        Due.queued(x, 1, 3);
        Due.is("not reported", x.carries(3, 1), false);
        Due.is("report(0)", x.report(0), 0);
        Due.is("of another site", x.carries(3, 1), false);
        Due.is("to a lower one", x.carries(2, 0), false);
        Due.is("over a lower one", x.carries(4, 0), false);
        Due.is("from the lower one on", x.carries(4, 2), true);
        Due.is("the wrong way", x.carries(2, 4), false);
        Due.is("report(1)", x.report(1), 0);
        Due.is("reported", x.carries(3, 1), true);
        Due.is("between two apart", x.carries(4, 1), false);
    }

    private static void presentOnly() {
        // The same edges and priorities come about by another way, with victims and ends before: the same answers.
        ProbeDeadlock x = chain(4);
        ProbeDeadlock y = Edge.allForAll(3, 9, 8, 7, 6);
        Due.is("settle()", y.settle(), 3);
        Due.is("abort(0)", y.abort(0), true);
        for (int t = 3; t >= 0; t--) {
            Due.is("begin", y.begin(t, 10 + t), true);
            Due.granted(y, t, t);
        }
        for (int t = 2; t >= 0; t--) {
            Due.queued(y, t, t + 1);
            Due.is("report", y.report((t + 1) % 3), 0);
        }
        for (int u = 0; u < 4; u++) {
            for (int t = 0; t < 4; t++) {
                Due.is("carries(" + u + ", " + t + ")", y.carries(u, t), x.carries(u, t));
            }
        }
        // The priority that counts is that of the present life.
        ProbeDeadlock z = new ProbeDeadlock(2, 1, 1);
        for (int p : new int[] {10, 90, 0, 99, 50}) {
            Due.begin(z, p, 50);
            Due.granted(z, 1, 0);
            Due.queued(z, 0, 0);
            Due.is("settle()", z.settle(), 0);
            Due.is("carries(1, 0) with " + p, z.carries(1, 0), p <= 50);
            Due.is("abort(0)", z.abort(0), true);
            Due.is("abort(1)", z.abort(1), true);
        }
    }

    private static void changesNothing() {
        Edge.changesNothing(Edge.CARRIES);
    }
}
