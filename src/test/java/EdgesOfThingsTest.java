/** Terms, Things to Priorities: each sentence that names an edge, by itself. */
public final class EdgesOfThingsTest {
    public static void main(String[] args) {
        Due.sentence("Transactions are numbered 0..T-1, locks 0..L-1, sites 0..S-1; "
            + "T, L and S are set by the constructor.", EdgesOfThingsTest::numbers);
        Due.sentence("Lock l is kept by site l % S.", EdgesOfThingsTest::sites);
        Due.sentence("`FREE`: not begun, or ended by commit or abort;", EdgesOfThingsTest::free);
        Due.sentence("`RUNNING`: begun, and waits for no lock;", EdgesOfThingsTest::running);
        Due.sentence("`WAITING`: begun, and waits for at least one lock;", EdgesOfThingsTest::waiting);
        Due.sentence("`VICTIM`: was ended by the detection (see Resolution) and has not been begun again.",
            EdgesOfThingsTest::victim);
        Due.sentence("A transaction is LIVE when it is `RUNNING` or `WAITING`.", EdgesOfThingsTest::live);
        Due.sentence("A live transaction has a priority 0..99, given by `begin` and fixed while it is live.",
            EdgesOfThingsTest::priority);
        Due.sentence("Transaction a is LOWER than b (and b is HIGHER than a) when priority(a) < priority(b), "
            + "or when the priorities are equal and a < b as numbers.", EdgesOfThingsTest::lower);
        Due.sentence("So of two different live transactions exactly one is the lower.",
            EdgesOfThingsTest::exactlyOneIsLower);
        Due.end();
    }

    private static void numbers() {
        for (int t = 2; t <= 8; t++) {
            for (int l = 1; l <= 12; l++) {
                for (int s = 1; s <= 4; s++) {
                    firstAndLast(t, l, s);
                }
            }
        }
    }

    private static void firstAndLast(int t, int l, int s) {
        ProbeDeadlock x = new ProbeDeadlock(t, l, s);
        String of = " of " + t + ", " + l + ", " + s;
        Due.is("begin(-1)" + of, x.begin(-1, 5), false);
        Due.is("begin(0)" + of, x.begin(0, 5), true);
        Due.is("begin(T-1)" + of, x.begin(t - 1, 5), true);
        Due.is("begin(T)" + of, x.begin(t, 5), false);
        Due.is("request(0, -1)" + of, x.request(0, -1), 0);
        Due.is("request(0, 0)" + of, x.request(0, 0), 1);
        Due.is("request(T-1, L-1)" + of, x.request(t - 1, l - 1), l == 1 ? 2 : 1);
        Due.is("request(0, L)" + of, x.request(0, l), 0);
        Due.is("report(-1)" + of, x.report(-1), -1);
        Due.is("report(0)" + of, x.report(0), 0);
        Due.is("report(S-1)" + of, x.report(s - 1), 0);
        Due.is("report(S)" + of, x.report(s), -1);
    }

    private static void sites() {
        for (int sites = 1; sites <= 4; sites++) {
            for (int l = 0; l < 12; l++) {
                for (int s = 0; s < sites; s++) {
                    ProbeDeadlock x = new ProbeDeadlock(2, 12, sites);
                    Due.begin(x, 1, 2);
                    Due.granted(x, 0, l);
                    Due.queued(x, 1, l);
                    Due.is("report(" + s + ") of " + sites, x.report(s), 0);
                    Due.is("reported(1, " + l + ")", x.reported(1, l), l % sites == s);
                }
            }
        }
    }

    private static void free() {
        for (int t = 0; t < 8; t++) {
            ProbeDeadlock x = new ProbeDeadlock(8, 1, 1);
            Due.is("not begun", x.state(t), ProbeDeadlock.FREE);
            Due.is("begin", x.begin(t, 0), true);
            Due.is("begun", x.state(t), ProbeDeadlock.RUNNING);
            Due.is("commit", x.commit(t), true);
            Due.is("committed", x.state(t), ProbeDeadlock.FREE);
            Due.is("begin", x.begin(t, 0), true);
            Due.is("abort", x.abort(t), true);
            Due.is("aborted", x.state(t), ProbeDeadlock.FREE);
        }
        ProbeDeadlock x = Edge.ring(1, 1, 2);
        Due.is("abort(1)", x.abort(1), true);
        Due.is("aborted when WAITING", x.state(1), ProbeDeadlock.FREE);
    }

    private static void running() {
        ProbeDeadlock x = new ProbeDeadlock(2, 12, 4);
        Due.begin(x, 1, 2);
        Due.states(x, 1, 1);
        for (int l = 0; l < 12; l++) {
            Due.granted(x, 0, l);
            Due.states(x, 1, 1);
        }
        Due.queued(x, 1, 11);
        Due.states(x, 1, 2);
        Due.is("drop(1, 11)", x.drop(1, 11), 4);
        Due.states(x, 1, 1);
        Due.queued(x, 1, 0);
        Due.is("drop(0, 0)", x.drop(0, 0), 3);
        Due.states(x, 1, 1);
    }

    private static void waiting() {
        for (int last = 0; last < 12; last++) {
            ProbeDeadlock x = new ProbeDeadlock(2, 12, 4);
            Due.begin(x, 1, 2);
            for (int l = 0; l < 12; l++) {
                Due.granted(x, 0, l);
            }
            for (int n = 0; n < 12; n++) {
                Due.queued(x, 1, (n * 7 + last) % 12);
                Due.states(x, 1, 2);
            }
            // The waits end one by one, granted and given up by turns: the last one alone makes a difference.
            for (int n = 0; n < 12; n++) {
                Due.states(x, 1, 2);
                int l = (last + 1 + n) % 12;
                Due.is("drop", x.drop(n % 2, l), n % 2 == 0 ? 3 : 4);
            }
            Due.states(x, 1, 1);
        }
    }

    private static void victim() {
        ProbeDeadlock x = Edge.ring(1, 1, 2);
        Due.is("settle()", x.settle(), 1);
        Due.states(x, 3, 1);
        Due.is("report(0)", x.report(0), 0);
        Due.is("abort(0)", x.abort(0), false);
        Due.is("commit(0)", x.commit(0), false);
        Due.is("begin(0, 100)", x.begin(0, 100), false);
        Due.is("commit(1)", x.commit(1), true);
        Due.states(x, 3, 0);
        Due.is("begin(0, 1)", x.begin(0, 1), true);
        Due.states(x, 1, 0);
        Due.is("commit(0)", x.commit(0), true);
        Due.states(x, 0, 0);
    }

    private static void live() {
        ProbeDeadlock x = Edge.rich();
        Due.states(x, 1, 2, 3, 0, 2, 0);
        Due.holders(x, 0, 1, 1, 0, -1, -1, 1);
        Due.victims(x, 2);
        Due.marks(x, 0, 1);
        boolean[] live = {true, true, false, false, true, false};
        for (int t = 0; t < 6; t++) {
            Due.is("priority(" + t + ") is there", x.priority(t) != -1, live[t]);
            Due.is("request(" + t + ", 5)", Edge.rich().request(t, 5), live[t] ? 1 : 0);
            Due.is("begin(" + t + ", 1)", Edge.rich().begin(t, 1), !live[t]);
            Due.is("abort(" + t + ")", Edge.rich().abort(t), live[t]);
        }
    }

    private static void priority() {
        for (int p : new int[] {0, 1, 50, 98, 99}) {
            ProbeDeadlock x = new ProbeDeadlock(3, 3, 1);
            Due.begin(x, 30, p, 60);
            Due.is("priority(1)", x.priority(1), p);
            Due.granted(x, 0, 0);
            Due.queued(x, 1, 0);
            Due.is("begin(1, 99 - p)", x.begin(1, 99 - p), false);
            Due.is("priority(1) of a WAITING one", x.priority(1), p);
            Due.is("settle()", x.settle(), 0);
            Due.is("drop(0, 0)", x.drop(0, 0), 3);
            Due.is("begin(1, 99 - p)", x.begin(1, 99 - p), false);
            Due.is("begin(0, 99)", x.begin(0, 99), false);
            Due.is("priority(1) of a holder", x.priority(1), p);
            Due.is("priority(0)", x.priority(0), 30);
        }
    }

    private static final int[][] PRIORITIES = {{0, 0}, {99, 99}, {50, 50}, {0, 1}, {1, 0}, {98, 99}, {99, 98},
        {0, 99}, {99, 0}, {9, 10}, {10, 9}, {63, 64}, {64, 63}, {15, 16}, {16, 15}};

    private static void lower() {
        for (int[] p : PRIORITIES) {
            for (int a = 0; a < 8; a++) {
                for (int b = 0; b < 8; b++) {
                    if (a != b) {
                        lowerOfTwo(a, p[0], b, p[1]);
                    }
                }
            }
        }
    }

    private static void lowerOfTwo(int a, int priorityOfA, int b, int priorityOfB) {
        boolean aIsLower = priorityOfA < priorityOfB || priorityOfA == priorityOfB && a < b;
        ProbeDeadlock x = new ProbeDeadlock(8, 2, 2);
        x.begin(a, priorityOfA);
        x.begin(b, priorityOfB);
        x.request(a, 0);
        x.request(b, 1);
        x.request(a, 1);
        Due.is("report(1)", x.report(1), 0);
        String pair = a + " of " + priorityOfA + " and " + b + " of " + priorityOfB;
        Due.is("b carries a's probe, " + pair, x.carries(b, a), aIsLower);
        x.request(b, 0);
        Due.is("report(0)", x.report(0), 1);
        Due.is("victim, " + pair, x.victim(0), aIsLower ? a : b);
    }

    private static void exactlyOneIsLower() {
        for (int[] p : PRIORITIES) {
            for (int a = 0; a < 8; a++) {
                for (int b = 0; b < a; b++) {
                    boolean one = carriesOverOneEdge(a, p[0], b, p[1]);
                    boolean other = carriesOverOneEdge(b, p[1], a, p[0]);
                    Due.is(a + " of " + p[0] + " and " + b + " of " + p[1] + ": one is lower", one != other, true);
                }
            }
        }
    }

    /** Does u carry the probe of t, when t waits for u? */
    private static boolean carriesOverOneEdge(int t, int priorityOfT, int u, int priorityOfU) {
        ProbeDeadlock x = new ProbeDeadlock(8, 1, 1);
        x.begin(t, priorityOfT);
        x.begin(u, priorityOfU);
        x.request(u, 0);
        x.request(t, 0);
        x.settle();
        return x.carries(u, t);
    }
}
