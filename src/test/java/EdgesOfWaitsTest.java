/** Terms, Wait edges to Probes: each sentence that names an edge of a range, by itself. */
public final class EdgesOfWaitsTest {
    public static void main(String[] args) {
        Due.sentence("This entry gives an edge from t to the holder of l, and an edge from t to each transaction "
            + "whose entry is before t's entry in the queue of l.", EdgesOfWaitsTest::holderAndAllBefore);
        Due.sentence("Such an edge is a REPORTED edge when t's own entry is reported; "
            + "the marks of the entries before it do not matter.", EdgesOfWaitsTest::ownMark);
        Due.sentence("Two transactions may be joined by edges of several locks.", EdgesOfWaitsTest::severalLocks);
        Due.sentence("Edges are always those of the present holders and queues: "
            + "an edge that has vanished counts no more, at once, everywhere.", EdgesOfWaitsTest::vanished);
        Due.sentence("A sequence of two or more different transactions in which each has a reported edge to the next, "
            + "and the last has one to the first.", EdgesOfWaitsTest::cycles);
        Due.sentence("u CARRIES the probe of t when there is a path of one or more reported edges from t to u "
            + "on which every transaction after t, u included, is higher than t.", EdgesOfWaitsTest::probes);
        Due.sentence("This holds of the present edges, after every call; "
            + "a probe that has lost every such path is gone.", EdgesOfWaitsTest::lostProbes);
        Due.end();
    }

    private static void holderAndAllBefore() {
        int[] order = {6, 1, 7, 3, 0, 5, 2};
        for (int l = 0; l < 12; l++) {
            ProbeDeadlock x = new ProbeDeadlock(8, 12, 4);
            Due.begin(x, 9, 9, 9, 9, 9, 9, 9, 9);
            Due.granted(x, 4, l);
            for (int t : order) {
                Due.queued(x, t, l);
            }
            for (int u = 0; u < 8; u++) {
                Due.is("the holder waits for " + u, x.waitsFor(4, u), 0);
            }
            for (int i = 0; i < 7; i++) {
                Due.is("edge to the holder", x.waitsFor(order[i], 4), 1);
                for (int j = 0; j < 7; j++) {
                    Due.is("edge from place " + i + " to place " + j, x.waitsFor(order[i], order[j]), j < i ? 1 : 0);
                }
            }
        }
    }

    private static void ownMark() {
        for (int marked = 0; marked <= 7; marked++) {
            ProbeDeadlock x = new ProbeDeadlock(8, 4, 2);
            Due.begin(x, 9, 9, 9, 9, 9, 9, 9, 9);
            Due.granted(x, 0, 3);
            for (int t = 1; t < 8; t++) {
                if (t == marked + 1) {
                    Due.is("report(1)", x.report(1), 0);
                }
                Due.queued(x, t, 3);
            }
            if (marked == 7) {
                Due.is("report(1)", x.report(1), 0);
            }
            for (int t = 1; t < 8; t++) {
                for (int u = 0; u < t; u++) {
                    Due.is("waitsFor(" + t + ", " + u + ") with " + marked + " marked",
                        x.waitsFor(t, u), t <= marked ? 2 : 1);
                }
            }
        }
    }

    private static void severalLocks() {
        ProbeDeadlock x = new ProbeDeadlock(2, 12, 4);
        Due.begin(x, 1, 2);
        for (int l = 0; l < 12; l++) {
            Due.granted(x, 0, l);
            Due.queued(x, 1, l);
        }
        Due.is("report(3)", x.report(3), 0);
        // Locks 3, 7 and 11 are reported: the edge is so until the last of them is gone, and there until all are.
        int[] order = {0, 11, 5, 3, 1, 7, 2, 4, 6, 8, 9, 10};
        for (int n = 0; n < 12; n++) {
            Due.is("waitsFor(1, 0) with " + n + " gone", x.waitsFor(1, 0), n <= 5 ? 2 : 1);
            Due.is("drop", x.drop(1, order[n]), 4);
        }
        Due.is("waitsFor(1, 0) with all gone", x.waitsFor(1, 0), 0);
        // Both ways at once.
        ProbeDeadlock y = Edge.ring(1, 1, 2);
        Due.is("waitsFor(0, 1)", y.waitsFor(0, 1), 1);
        Due.is("waitsFor(1, 0)", y.waitsFor(1, 0), 1);
    }

    private static void vanished() {
        for (String way : new String[] {"drop by the waiter", "drop by the holder", "abort of the waiter",
            "abort of the holder"}) {
            // 0 -> 1 is reported; 1 -> 0 is not yet when 0 -> 1 goes.
            ProbeDeadlock x = new ProbeDeadlock(3, 2, 2);
            Due.begin(x, 1, 2, 3);
            Due.granted(x, 0, 0);
            Due.granted(x, 1, 1);
            Due.queued(x, 0, 1);
            Due.is("report(1)", x.report(1), 0);
            Due.queued(x, 1, 0);
            Due.is("waitsFor(0, 1)", x.waitsFor(0, 1), 2);
            Due.is("carries(1, 0)", x.carries(1, 0), true);
            switch (way) {
                case "drop by the waiter" -> x.drop(0, 1);
                case "drop by the holder" -> x.drop(1, 1);
                case "abort of the waiter" -> x.abort(0);
                default -> x.abort(1);
            }
            Due.is(way + ": waitsFor(0, 1)", x.waitsFor(0, 1), 0);
            Due.is(way + ": carries(1, 0)", x.carries(1, 0), false);
            Due.is(way + ": report(0)", x.report(0), 0);
            Due.is(way + ": settle()", x.settle(), 0);
        }
        vanishedByCommit();
        vanishedByAVictim();
    }

    private static void vanishedByCommit() {
        ProbeDeadlock x = new ProbeDeadlock(3, 1, 1);
        Due.begin(x, 1, 2, 3);
        Due.granted(x, 2, 0);
        Due.queued(x, 0, 0);
        Due.queued(x, 1, 0);
        Due.is("settle()", x.settle(), 0);
        Due.is("commit(2)", x.commit(2), true);
        Due.is("waitsFor(0, 2)", x.waitsFor(0, 2), 0);
        Due.is("waitsFor(1, 2)", x.waitsFor(1, 2), 0);
        Due.is("carries(2, 0)", x.carries(2, 0), false);
        Due.is("waitsFor(1, 0)", x.waitsFor(1, 0), 2);
    }

    private static void vanishedByAVictim() {
        ProbeDeadlock x = Edge.ring(1, 10, 20, 30);
        Due.is("settle()", x.settle(), 1);
        Due.is("waitsFor(0, 1)", x.waitsFor(0, 1), 0);
        Due.is("waitsFor(2, 0)", x.waitsFor(2, 0), 0);
        Due.is("carries(1, 0)", x.carries(1, 0), false);
        Due.is("carries(2, 1)", x.carries(2, 1), true);
    }

    private static void cycles() {
        int[] all = {40, 30, 90, 70, 80, 99, 20, 60};
        for (int n = 2; n <= 8; n++) {
            int[] priorities = java.util.Arrays.copyOf(all, n);
            int lowest = n >= 7 ? 6 : 1;
            ProbeDeadlock x = Edge.ring(4, priorities);
            Due.is("settle() of a ring of " + n, x.settle(), 1);
            Due.victims(x, lowest);
            // With any one edge away, there is no cycle.
            for (int gap = 0; gap < n; gap++) {
                ProbeDeadlock y = Edge.ring(4, priorities);
                Due.is("drop", y.drop(gap, (gap + 1) % n), 4);
                Due.is("settle() of a ring with a gap", y.settle(), 0);
            }
            // With one site that has not reported, some edges are not, and there is none either.
            int sites = Math.min(n, 4);
            for (int silent = 0; silent < sites; silent++) {
                ProbeDeadlock y = Edge.ring(sites, priorities);
                for (int s = 0; s < sites; s++) {
                    if (s != silent) {
                        Due.is("report(" + s + ") without " + silent, y.report(s), 0);
                    }
                }
                Due.is("report(" + silent + ")", y.report(silent), 1);
                Due.victims(y, lowest);
            }
            // With any one edge new and not reported, there is none until the next report.
            for (int late = 0; late < n; late++) {
                ProbeDeadlock y = Edge.ring(1, priorities);
                Due.is("drop", y.drop(late, (late + 1) % n), 4);
                Due.is("settle()", y.settle(), 0);
                Due.queued(y, late, (late + 1) % n);
                Due.is("waitsFor", y.waitsFor(late, (late + 1) % n), 1);
                Due.victims(y);
                Due.is("settle() of the ring closed again", y.settle(), 1);
                Due.victims(y, lowest);
            }
        }
        oneIsNoCycle();
    }

    private static void oneIsNoCycle() {
        ProbeDeadlock x = new ProbeDeadlock(2, 2, 1);
        Due.begin(x, 1, 2);
        Due.granted(x, 0, 0, 1);
        Due.queued(x, 1, 0, 1);
        Due.is("request of a lock one holds", x.request(0, 0), 0);
        Due.is("settle()", x.settle(), 0);
        Due.states(x, 1, 2);
    }

    /** Edges n-1 -> n-2 -> .. -> 0, each by a lock of its own, all reported. */
    private static ProbeDeadlock chainDown(int... priorities) {
        int n = priorities.length;
        ProbeDeadlock x = new ProbeDeadlock(n, n, 1);
        Due.begin(x, priorities);
        for (int t = 0; t < n; t++) {
            Due.granted(x, t, t);
        }
        for (int t = 1; t < n; t++) {
            Due.queued(x, t, t - 1);
        }
        Due.is("settle()", x.settle(), 0);
        return x;
    }

    private static void probes() {
        for (int n = 2; n <= 8; n++) {
            int[] priorities = new int[n];
            for (int t = 0; t < n; t++) {
                priorities[t] = 50;
            }
            // The starter is the lowest by one, then each of the others in turn is lower than it by one.
            priorities[n - 1] = 49;
            Due.is("one end to the other of " + n, chainDown(priorities).carries(0, n - 1), true);
            for (int low = 0; low < n - 1; low++) {
                priorities[low] = 48;
                ProbeDeadlock x = chainDown(priorities);
                for (int u = 0; u < n - 1; u++) {
                    Due.is("carries(" + u + ", " + (n - 1) + ") past " + low, x.carries(u, n - 1), u > low);
                }
                // The same priority is lower too, since the number is.
                priorities[low] = 49;
                ProbeDeadlock y = chainDown(priorities);
                Due.is("carries(0, " + (n - 1) + ") past " + low, y.carries(0, n - 1), false);
                priorities[low] = 50;
            }
        }
        noEdgeNoProbe();
    }

    private static void noEdgeNoProbe() {
        ProbeDeadlock x = chainDown(99, 50, 10);
        for (int t = 0; t < 3; t++) {
            Due.is("carries(" + t + ", " + t + ")", x.carries(t, t), false);
        }
        Due.is("against the edges", x.carries(2, 0), false);
        ProbeDeadlock y = Edge.ring(2, 10, 20, 30);
        Due.is("not reported", y.carries(1, 0), false);
    }

    private static void lostProbes() {
        // 0 reaches 3 by 1 and by 2; each path is lost in its own way, and the probe is there until both are.
        for (String way : new String[] {"drop", "abort"}) {
            ProbeDeadlock x = new ProbeDeadlock(4, 4, 1);
            Due.begin(x, 10, 20, 30, 40);
            Due.granted(x, 1, 1);
            Due.granted(x, 2, 2);
            Due.granted(x, 3, 3, 0);
            Due.queued(x, 0, 1, 2);
            Due.queued(x, 1, 3);
            Due.queued(x, 2, 0);
            Due.is("carries(3, 0) before", x.carries(3, 0), false);
            Due.is("settle()", x.settle(), 0);
            Due.is("carries(3, 0) by two paths", x.carries(3, 0), true);
            if (way.equals("drop")) {
                Due.is("drop(1, 3)", x.drop(1, 3), 4);
            } else {
                Due.is("abort(1)", x.abort(1), true);
            }
            Due.is("carries(3, 0) by one path", x.carries(3, 0), true);
            Due.is("drop(2, 0)", x.drop(2, 0), 4);
            Due.is("carries(3, 0) without a path", x.carries(3, 0), false);
            // It comes back by a new path, once that is reported.
            Due.queued(x, 2, 0);
            Due.is("carries(3, 0) not reported", x.carries(3, 0), false);
            Due.is("settle()", x.settle(), 0);
            Due.is("carries(3, 0) reported", x.carries(3, 0), true);
            // Begun anew as a higher one, 0 has no edges at first, and then 3 is lower.
            Due.is("abort(0)", x.abort(0), true);
            Due.is("begin(0, 99)", x.begin(0, 99), true);
            Due.is("carries(3, 0) begun anew", x.carries(3, 0), false);
            Due.queued(x, 0, 2);
            Due.is("settle()", x.settle(), 0);
            Due.is("waitsFor(0, 2)", x.waitsFor(0, 2), 2);
            Due.is("carries(3, 0) of a higher one", x.carries(3, 0), false);
        }
        lostWithEveryEnd();
    }

    /** A path of one edge, lost by each call that can take the edge away. */
    private static void lostWithEveryEnd() {
        for (int way = 0; way < 5; way++) {
            ProbeDeadlock x = new ProbeDeadlock(2, 1, 1);
            Due.begin(x, 10, 20);
            Due.granted(x, 1, 0);
            Due.queued(x, 0, 0);
            Due.is("settle()", x.settle(), 0);
            Due.is("carries(1, 0) before", x.carries(1, 0), true);
            switch (way) {
                case 0 -> Due.is("drop(0, 0)", x.drop(0, 0), 4);
                case 1 -> Due.is("drop(1, 0)", x.drop(1, 0), 3);
                case 2 -> Due.is("commit(1)", x.commit(1), true);
                case 3 -> Due.is("abort(1)", x.abort(1), true);
                default -> Due.is("abort(0)", x.abort(0), true);
            }
            Due.is("carries(1, 0) after way " + way, x.carries(1, 0), false);
        }
    }
}
