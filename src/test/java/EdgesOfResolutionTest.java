/** Terms, Resolution, Refusals, What can change anything: each sentence that names an edge, by itself. */
public final class EdgesOfResolutionTest {
    public static void main(String[] args) {
        Due.sentence("It takes place only inside `report` and `settle`:", EdgesOfResolutionTest::onlyInside);
        Due.sentence("The list of victims is made empty.", EdgesOfResolutionTest::madeEmpty);
        Due.sentence("As long as there is a reported cycle: let v be the lowest of all transactions "
            + "that are on some reported cycle.", EdgesOfResolutionTest::lowestOfAll);
        Due.sentence("v is put at the end of the list of victims, v is ended, and the state of v becomes `VICTIM`.",
            EdgesOfResolutionTest::atTheEnd);
        Due.sentence("Then the reported cycles are looked for anew, among the edges as they are now.",
            EdgesOfResolutionTest::lookedForAnew);
        Due.sentence("The list has at most T entries.", EdgesOfResolutionTest::atMostT);
        Due.sentence("Every argument may be any int.", EdgesOfResolutionTest::anyInt);
        Due.sentence("A refused call changes nothing at all; the list of victims stays too.",
            EdgesOfResolutionTest::refusedChangesNothing);
        Due.sentence("Where several reasons for refusal apply, the answer is the same.",
            EdgesOfResolutionTest::severalReasons);
        Due.sentence("Apart from `begin`, `request`, `drop`, `commit`, `abort`, `report` and `settle`, "
            + "no call changes anything.", EdgesOfResolutionTest::looksChangeNothing);
        Due.end();
    }

    private static void onlyInside() {
        ProbeDeadlock x = new ProbeDeadlock(5, 5, 3);
        Due.begin(x, 10, 20, 30, 40, 50);
        Due.granted(x, 0, 0, 3);
        Due.granted(x, 1, 1);
        Due.queued(x, 0, 1);
        Due.is("report(1)", x.report(1), 0);
        Due.queued(x, 1, 0);
        Due.queued(x, 2, 3);
        noVictim(x, "a cycle with one edge not reported");
        Due.granted(x, 4, 4);
        noVictim(x, "request");
        Due.is("drop(4, 4)", x.drop(4, 4), 3);
        noVictim(x, "drop");
        Due.is("commit(4)", x.commit(4), true);
        noVictim(x, "commit");
        Due.is("abort(3)", x.abort(3), true);
        noVictim(x, "abort");
        Due.is("begin(3, 0)", x.begin(3, 0), true);
        noVictim(x, "begin");
        Due.is("report(3)", x.report(3), -1);
        noVictim(x, "a refused report");
        Due.all(x);
        noVictim(x, "looking");
        Due.is("report(0)", x.report(0), 1);
        Due.victims(x, 0);
        ProbeDeadlock y = Edge.ring(4, 5, 6, 7, 8);
        noVictim(y, "a cycle not reported");
        Due.is("settle()", y.settle(), 1);
        Due.victims(y, 0);
    }

    private static void noVictim(ProbeDeadlock x, String after) {
        Due.is("victims() after " + after, x.victims(), 0);
        for (int t = 0; t < 5; t++) {
            Due.is("state(" + t + ") is VICTIM after " + after, x.state(t) == 3, false);
        }
    }

    private static void madeEmpty() {
        for (boolean bySettle : new boolean[] {false, true}) {
            ProbeDeadlock x = Edge.allForAll(1, 8, 7, 6, 5, 4, 3, 2, 1);
            Due.is("settle()", x.settle(), 7);
            Due.victims(x, 7, 6, 5, 4, 3, 2, 1);
            Due.is("no victim", bySettle ? x.settle() : x.report(0), 0);
            Due.victims(x);
            for (int k = 0; k < 8; k++) {
                Due.is("victim(" + k + ")", x.victim(k), -1);
            }
        }
    }

    private static void lowestOfAll() {
        // Two rings of four; in each place once the lowest of all stands, with the next lowest in the other ring.
        for (int low = 0; low < 8; low++) {
            int[] priorities = {80, 81, 82, 83, 80, 81, 82, 83};
            priorities[low] = 10;
            int second = (low + 4) % 8;
            priorities[second] = 10 + (second < low ? 1 : 0);
            ProbeDeadlock x = twoRings(priorities);
            Due.is("settle()", x.settle(), 2);
            Due.victims(x, low, second);
        }
        // One that is lower than all but on no cycle: it waits for a ring, or a ring waits for it.
        ProbeDeadlock y = new ProbeDeadlock(4, 5, 1);
        Due.begin(y, 0, 20, 30, 0);
        Due.granted(y, 1, 1);
        Due.granted(y, 2, 2);
        Due.granted(y, 3, 3);
        Due.queued(y, 1, 2, 3);
        Due.queued(y, 2, 1);
        Due.queued(y, 0, 1);
        Due.is("settle()", y.settle(), 1);
        Due.victims(y, 1);
        Due.states(y, 2, 3, 1, 1);
        noCycleNoVictim();
    }

    private static ProbeDeadlock twoRings(int[] priorities) {
        ProbeDeadlock x = new ProbeDeadlock(8, 8, 4);
        Due.begin(x, priorities);
        for (int t = 0; t < 8; t++) {
            Due.granted(x, t, t);
        }
        for (int t = 0; t < 8; t++) {
            Due.queued(x, t, t / 4 * 4 + (t + 1) % 4);
        }
        return x;
    }

    private static void noCycleNoVictim() {
        ProbeDeadlock x = new ProbeDeadlock(8, 1, 1);
        Due.begin(x, 7, 6, 5, 4, 3, 2, 1, 0);
        Due.granted(x, 0, 0);
        for (int t = 1; t < 8; t++) {
            Due.queued(x, t, 0);
        }
        Due.is("settle() of a full queue", x.settle(), 0);
        Due.is("settle() at the start", new ProbeDeadlock(8, 12, 4).settle(), 0);
    }

    private static void atTheEnd() {
        int[] priorities = {50, 20, 70, 20, 99, 0, 50, 30};
        int[] order = {5, 1, 3, 7, 0, 6, 2};
        for (int sites = 1; sites <= 4; sites++) {
            ProbeDeadlock x = Edge.allForAll(sites, priorities);
            Due.is("settle()", x.settle(), 7);
            Due.victims(x, order);
            for (int t : order) {
                Due.is("state(" + t + ")", x.state(t), ProbeDeadlock.VICTIM);
                Due.is("priority(" + t + ")", x.priority(t), -1);
                for (int l = 0; l < 8; l++) {
                    Due.is("drop(" + t + ", " + l + ")", x.drop(t, l), 0);
                }
            }
            Due.is("state(4)", x.state(4), ProbeDeadlock.RUNNING);
            Due.holders(x, 4, 4, 4, 4, 4, 4, 4, 4);
        }
    }

    private static void lookedForAnew() {
        // The lowest is on every cycle: two rings that meet in it break with it.
        for (int shared = 0; shared < 3; shared++) {
            int a = (shared + 1) % 3;
            int b = (shared + 2) % 3;
            ProbeDeadlock x = new ProbeDeadlock(3, 3, 1);
            Due.is("begin", x.begin(shared, 0), true);
            Due.is("begin", x.begin(a, 50), true);
            Due.is("begin", x.begin(b, 50), true);
            for (int t = 0; t < 3; t++) {
                Due.granted(x, t, t);
            }
            Due.queued(x, shared, a, b);
            Due.queued(x, a, shared);
            Due.queued(x, b, shared);
            Due.is("settle()", x.settle(), 1);
            Due.victims(x, shared);
            Due.is("state(a)", x.state(a), 1);
            Due.is("state(b)", x.state(b), 2);
        }
        // The edge from 2 to 1 in the queue of lock 0 is one to its holder when 0 is ended: the cycle 1-2 stays.
        ProbeDeadlock y = new ProbeDeadlock(3, 3, 1);
        Due.begin(y, 0, 60, 50);
        Due.granted(y, 0, 0);
        Due.granted(y, 2, 2);
        Due.queued(y, 1, 0);
        Due.queued(y, 2, 0);
        Due.queued(y, 1, 2);
        Due.queued(y, 0, 2);
        Due.is("settle()", y.settle(), 2);
        Due.victims(y, 0, 2);
        Due.states(y, 3, 1, 3);
        Due.holders(y, 1, -1, 1);
    }

    private static void atMostT() {
        for (int n = 2; n <= 8; n++) {
            for (int round = 0; round < 3; round++) {
                int[] priorities = new int[n];
                for (int t = 0; t < n; t++) {
                    priorities[t] = round == 0 ? 50 : round == 1 ? t : 99 - t;
                }
                ProbeDeadlock x = Edge.allForAll(4, priorities);
                Due.is("settle() of " + n, x.settle(), n - 1);
                Due.is("victims()", x.victims(), n - 1);
                boolean[] seen = new boolean[n];
                for (int k = 0; k < n - 1; k++) {
                    int v = x.victim(k);
                    Due.is("victim(" + k + ") is a transaction", v >= 0 && v < n, true);
                    if (v >= 0 && v < n) {
                        Due.is("victim(" + k + ") was there before", seen[v], false);
                        seen[v] = true;
                    }
                }
                Due.is("victim(T-1)", x.victim(n - 1), -1);
                Due.is("victim(T)", x.victim(n), -1);
            }
        }
        fullListAgainAndAgain();
    }

    /** Each full list takes the place of the one before. */
    private static void fullListAgainAndAgain() {
        ProbeDeadlock x = Edge.allForAll(1, 1, 2, 3, 4, 5, 6, 7, 8);
        for (int round = 0; round < 20; round++) {
            Due.is("report(0)", x.report(0), 7);
            Due.victims(x, 0, 1, 2, 3, 4, 5, 6);
            Due.is("commit(7)", x.commit(7), true);
            Due.begin(x, 1, 2, 3, 4, 5, 6, 7, 8);
            for (int t = 0; t < 8; t++) {
                Due.granted(x, t, t);
            }
            for (int t = 0; t < 8; t++) {
                for (int l = 0; l < 8; l++) {
                    if (l != t) {
                        Due.queued(x, t, l);
                    }
                }
            }
        }
    }

    /** Every call with every pair of numbers near the edges; an exception would break this sentence. */
    private static void anyInt() {
        int[] numbers = {Integer.MIN_VALUE, Integer.MIN_VALUE + 1, -65536, -256, -32, -12, -8, -4, -2, -1, 0, 1, 2, 3,
            4, 5, 6, 7, 8, 11, 12, 13, 31, 32, 33, 95, 96, 99, 100, 255, 256, 65535, 65536, 1 << 28, 1 << 29, 1 << 30,
            Integer.MAX_VALUE - 1, Integer.MAX_VALUE};
        for (int a : numbers) {
            for (int b : numbers) {
                everyCall(new ProbeDeadlock(a, b, a), a, b);
                everyCall(new ProbeDeadlock(b, a, b), a, b);
            }
        }
        ProbeDeadlock x = Edge.rich();
        for (int a : numbers) {
            for (int b : numbers) {
                everyCall(x, a, b);
            }
        }
    }

    private static void everyCall(ProbeDeadlock x, int a, int b) {
        x.begin(a, b);
        x.request(a, b);
        int state = x.state(a);
        Due.is("state(" + a + ") is one of four or NONE", state >= -1 && state <= 3, true);
        x.priority(a);
        x.holder(a);
        x.waiter(a, b);
        x.reported(a, b);
        int edge = x.waitsFor(a, b);
        Due.is("waitsFor(" + a + ", " + b + ") is 0, 1 or 2", edge >= 0 && edge <= 2, true);
        x.carries(a, b);
        x.drop(a, b);
        x.report(a);
        x.settle();
        x.victim(a);
        x.commit(a);
        x.abort(b);
    }

    private static void refusedChangesNothing() {
        ProbeDeadlock x = Edge.rich();
        String before = Due.all(x);
        same(x, before, "begin(0, 9)", x.begin(0, 9) ? 1 : 0, 0);
        same(x, before, "begin(1, 9)", x.begin(1, 9) ? 1 : 0, 0);
        same(x, before, "begin(2, 100)", x.begin(2, 100) ? 1 : 0, 0);
        same(x, before, "begin(3, -1)", x.begin(3, -1) ? 1 : 0, 0);
        same(x, before, "begin(6, 9)", x.begin(6, 9) ? 1 : 0, 0);
        same(x, before, "begin(-1, 9)", x.begin(-1, 9) ? 1 : 0, 0);
        same(x, before, "request(0, 0)", x.request(0, 0), 0);
        same(x, before, "request(1, 0)", x.request(1, 0), 0);
        same(x, before, "request(4, 3)", x.request(4, 3), 0);
        same(x, before, "request(2, 5)", x.request(2, 5), 0);
        same(x, before, "request(3, 0)", x.request(3, 0), 0);
        same(x, before, "request(0, 7)", x.request(0, 7), 0);
        same(x, before, "request(0, -1)", x.request(0, -1), 0);
        same(x, before, "request(6, 5)", x.request(6, 5), 0);
        same(x, before, "request(-1, 5)", x.request(-1, 5), 0);
        same(x, before, "drop(0, 1)", x.drop(0, 1), 0);
        same(x, before, "drop(0, 5)", x.drop(0, 5), 0);
        same(x, before, "drop(2, 2)", x.drop(2, 2), 0);
        same(x, before, "drop(-1, 5)", x.drop(-1, 5), 0);
        same(x, before, "drop(6, 0)", x.drop(6, 0), 0);
        same(x, before, "drop(0, 7)", x.drop(0, 7), 0);
        for (int t : new int[] {-1, 1, 2, 3, 4, 5, 6}) {
            same(x, before, "commit(" + t + ")", x.commit(t) ? 1 : 0, 0);
        }
        for (int t : new int[] {-1, 2, 3, 5, 6}) {
            same(x, before, "abort(" + t + ")", x.abort(t) ? 1 : 0, 0);
        }
        for (int s : new int[] {-3, -1, 3, 4, 6}) {
            same(x, before, "report(" + s + ")", x.report(s), -1);
        }
        Due.victims(x, 2);
    }

    private static void same(ProbeDeadlock x, String before, String call, int got, int want) {
        Due.is(call, got, want);
        Due.is(call, Due.all(x), before);
    }

    private static void severalReasons() {
        ProbeDeadlock x = Edge.rich();
        String before = Due.all(x);
        int[] wrong = {Integer.MIN_VALUE, -1, 100, 112, Integer.MAX_VALUE};
        for (int a : wrong) {
            for (int b : wrong) {
                Due.is("begin(" + a + ", " + b + ")", x.begin(a, b), false);
                Due.is("request(" + a + ", " + b + ")", x.request(a, b), 0);
                Due.is("drop(" + a + ", " + b + ")", x.drop(a, b), 0);
                Due.is("waiter(" + a + ", " + b + ")", x.waiter(a, b), -1);
                Due.is("reported(" + a + ", " + b + ")", x.reported(a, b), false);
                Due.is("waitsFor(" + a + ", " + b + ")", x.waitsFor(a, b), 0);
                Due.is("carries(" + a + ", " + b + ")", x.carries(a, b), false);
            }
            for (int t = 0; t < 6; t++) {
                Due.is("request(" + t + ", " + a + ")", x.request(t, a), 0);
                Due.is("drop(" + t + ", " + a + ")", x.drop(t, a), 0);
                Due.is("begin(" + t + ", " + a + ")", x.begin(t, a), false);
            }
        }
        Due.is("refused calls", Due.all(x), before);
    }

    private static void looksChangeNothing() {
        for (int kind = 0; kind < Edge.LOOKS; kind++) {
            Edge.changesNothing(kind);
        }
        ProbeDeadlock[] objects = {new ProbeDeadlock(2, 1, 1), Edge.ring(4, 1, 2, 3, 4, 5, 6, 7, 8),
            Edge.allForAll(2, 9, 8, 7, 6, 5)};
        for (ProbeDeadlock x : objects) {
            String before = Due.all(x);
            Due.is("looking again", Due.all(x), before);
        }
    }
}
