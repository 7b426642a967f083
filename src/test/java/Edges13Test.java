/** Promise 13, reported: each sentence that names an edge, by itself. */
public final class Edges13Test {
    public static void main(String[] args) {
        Due.sentence("`reported(t, l)` answers `true` if t is in 0..T-1, l is in 0..L-1, "
            + "and t has an entry in the queue of l that is reported.", Edges13Test::reported);
        Due.sentence("`reported(t, l)` answers `false` if t is not in 0..T-1", Edges13Test::noTransaction);
        Due.sentence("`reported(t, l)` answers `false` if l is not in 0..L-1", Edges13Test::noLock);
        Due.sentence("so it does when t holds l", Edges13Test::holds);
        Due.sentence("so it does when t is not in the queue of l", Edges13Test::notInTheQueue);
        Due.sentence("so it does when t's entry there is not reported.", Edges13Test::notReported);
        Due.sentence("It changes nothing.", Edges13Test::changesNothing);
        Due.end();
    }

    /** 0 holds all locks, all others wait for all of them. */
    private static ProbeDeadlock allWait(int transactions, int locks) {
        ProbeDeadlock x = new ProbeDeadlock(transactions, locks, 1);
        for (int t = 0; t < transactions; t++) {
            Due.is("begin", x.begin(t, 5), true);
        }
        for (int l = 0; l < locks; l++) {
            Due.granted(x, 0, l);
            for (int t = 1; t < transactions; t++) {
                Due.queued(x, t, l);
            }
        }
        return x;
    }

    private static void reported() {
        for (int locks = 1; locks <= 12; locks++) {
            for (int n = 2; n <= 8; n++) {
                ProbeDeadlock x = allWait(n, locks);
                Due.is("settle()", x.settle(), 0);
                for (int l = 0; l < locks; l++) {
                    for (int t = 1; t < n; t++) {
                        Due.is("reported(" + t + ", " + l + ")", x.reported(t, l), true);
                    }
                }
            }
        }
        // One entry of all, in each place.
        for (int l = 0; l < 12; l++) {
            for (int t = 0; t < 8; t++) {
                ProbeDeadlock x = new ProbeDeadlock(8, 12, 4);
                Due.is("begin", x.begin(t, 5), true);
                Due.is("begin", x.begin((t + 1) % 8, 5), true);
                Due.granted(x, (t + 1) % 8, l);
                Due.queued(x, t, l);
                Due.is("report", x.report(l % 4), 0);
                for (int other = 0; other < 12; other++) {
                    for (int u = 0; u < 8; u++) {
                        Due.is("reported(" + u + ", " + other + ")", x.reported(u, other), u == t && other == l);
                    }
                }
            }
        }
    }

    private static void noTransaction() {
        for (int n = 2; n <= 8; n++) {
            ProbeDeadlock x = allWait(n, 12);
            Due.is("settle()", x.settle(), 0);
            for (int t : Edge.outside(n)) {
                for (int l = 0; l < 12; l++) {
                    Due.is("reported(" + t + ", " + l + ") with T " + n, x.reported(t, l), false);
                }
            }
        }
    }

    private static void noLock() {
        for (int n = 1; n <= 12; n++) {
            ProbeDeadlock x = allWait(8, n);
            Due.is("settle()", x.settle(), 0);
            for (int l : Edge.outside(n)) {
                for (int t = 0; t < 8; t++) {
                    Due.is("reported(" + t + ", " + l + ") with L " + n, x.reported(t, l), false);
                }
                Due.is("reported(" + l + ", " + l + ") with L " + n, x.reported(l, l), false);
            }
        }
    }

    private static void holds() {
        ProbeDeadlock x = allWait(8, 12);
        Due.is("settle()", x.settle(), 0);
        for (int l = 0; l < 12; l++) {
            for (int holder = 0; holder < 8; holder++) {
                Due.is("holder(" + l + ")", x.holder(l), holder);
                Due.is("reported of the holder", x.reported(holder, l), false);
                Due.is("drop", x.drop(holder, l), 3);
                Due.is("reported of the former holder", x.reported(holder, l), false);
            }
        }
    }

    private static void notInTheQueue() {
        ProbeDeadlock x = Edge.rich();
        Due.is("settle()", x.settle(), 0);
        for (int l = 0; l < 7; l++) {
            for (int t = 0; t < 6; t++) {
                boolean want = l == 0 && (t == 1 || t == 4) || l == 3 && t == 4;
                Due.is("reported(" + t + ", " + l + ")", x.reported(t, l), want);
            }
        }
        // It was there and reported, and has left.
        Due.is("drop(4, 0)", x.drop(4, 0), 4);
        Due.is("reported(4, 0)", x.reported(4, 0), false);
        Due.is("abort(1)", x.abort(1), true);
        Due.is("reported(1, 0)", x.reported(1, 0), false);
        Due.is("drop(0, 3)", x.drop(0, 3), 3);
        Due.is("reported(4, 3)", x.reported(4, 3), false);
        ProbeDeadlock y = Edge.ring(1, 1, 2);
        Due.is("settle()", y.settle(), 1);
        Due.is("reported(0, 1) of a VICTIM", y.reported(0, 1), false);
    }

    private static void notReported() {
        ProbeDeadlock x = allWait(8, 12);
        for (int l = 0; l < 12; l++) {
            Due.marks(x, l);
        }
        // Also when others in the same queue, or its own entries elsewhere, are reported.
        ProbeDeadlock y = new ProbeDeadlock(4, 4, 2);
        Due.begin(y, 1, 2, 3, 4);
        Due.granted(y, 0, 0, 1);
        Due.queued(y, 1, 0, 1);
        Due.is("report(0)", y.report(0), 0);
        Due.queued(y, 2, 0);
        Due.marks(y, 0, 1);
        Due.marks(y, 1);
    }

    private static void changesNothing() {
        Edge.changesNothing(Edge.REPORTED);
    }
}
