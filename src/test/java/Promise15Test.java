/** Promise 15: carries. */
public final class Promise15Test {
    public static void main(String[] args) {
        chain();
        throughHigherAlone();
        equalPriorities();
        longPaths();
        anyOfSeveralPaths();
        wrongInputs();
        Due.end();
    }

    /** Transaction t holds lock t and waits for lock t + 1: edges 0 -> 1 -> 2 .. */
    private static ProbeDeadlock chainOf(int sites, int... priorities) {
        int n = priorities.length;
        ProbeDeadlock x = new ProbeDeadlock(n, n, sites);
        Due.begin(x, priorities);
        for (int t = 0; t < n; t++) {
            Due.granted(x, t, t);
        }
        for (int t = 0; t + 1 < n; t++) {
            Due.queued(x, t, t + 1);
        }
        return x;
    }

    /** These pairs (carrier, origin) are carried, and no others. */
    private static void due(ProbeDeadlock x, int n, int... pairs) {
        for (int u = -1; u <= n; u++) {
            for (int t = -1; t <= n; t++) {
                boolean want = false;
                for (int i = 0; i < pairs.length; i += 2) {
                    want |= pairs[i] == u && pairs[i + 1] == t;
                }
                Due.is("carries(" + u + ", " + t + ")", x.carries(u, t), want);
            }
        }
    }

    private static void chain() {
        ProbeDeadlock x = chainOf(3, 10, 20, 30, 40);
        due(x, 4);
        Due.is("report(1)", x.report(1), 0);
        due(x, 4, 1, 0);
        Due.is("report(0)", x.report(0), 0);
        due(x, 4, 1, 0, 3, 2);
        Due.is("report(2)", x.report(2), 0);
        due(x, 4, 1, 0, 2, 0, 3, 0, 2, 1, 3, 1, 3, 2);
        // The edge from 1 to 2 goes, and with it every path over it.
        Due.is("drop(1, 2)", x.drop(1, 2), 4);
        due(x, 4, 1, 0, 3, 2);
        Due.queued(x, 1, 2);
        due(x, 4, 1, 0, 3, 2);
        Due.is("report(2)", x.report(2), 0);
        due(x, 4, 1, 0, 2, 0, 3, 0, 2, 1, 3, 1, 3, 2);
        // 2 gives its lock to 1, who then waits for nobody.
        Due.is("drop(2, 2)", x.drop(2, 2), 3);
        due(x, 4, 1, 0, 3, 2);
        Due.is("abort(1)", x.abort(1), true);
        due(x, 4, 3, 2);
    }

    private static void throughHigherAlone() {
        ProbeDeadlock x = chainOf(1, 50, 70, 20, 90);
        Due.is("settle()", x.settle(), 0);
        due(x, 4, 1, 0, 3, 2);
        ProbeDeadlock y = chainOf(1, 50, 40, 99, 45);
        Due.is("settle()", y.settle(), 0);
        due(y, 4, 2, 1, 3, 1);
    }

    private static void equalPriorities() {
        ProbeDeadlock x = chainOf(1, 5, 5, 5);
        Due.is("settle()", x.settle(), 0);
        due(x, 3, 1, 0, 2, 0, 2, 1);
        ProbeDeadlock y = new ProbeDeadlock(2, 1, 1);
        Due.begin(y, 5, 5);
        Due.granted(y, 0, 0);
        Due.queued(y, 1, 0);
        Due.is("settle()", y.settle(), 0);
        due(y, 2);
    }

    private static void longPaths() {
        // Seven edges against the order of the numbers, so that no single sweep in that order finds them.
        ProbeDeadlock x = new ProbeDeadlock(8, 8, 1);
        Due.begin(x, 80, 70, 60, 50, 40, 30, 20, 10);
        for (int t = 0; t < 8; t++) {
            Due.granted(x, t, t);
        }
        for (int t = 7; t > 0; t--) {
            Due.queued(x, t, t - 1);
        }
        Due.is("settle()", x.settle(), 0);
        for (int t = 0; t < 8; t++) {
            for (int u = 0; u < 8; u++) {
                Due.is("carries(" + u + ", " + t + ")", x.carries(u, t), u < t);
            }
        }
        // A closed ring of all eight is found as a cycle too.
        Due.queued(x, 0, 7);
        Due.is("settle()", x.settle(), 1);
        Due.victims(x, 7);
    }

    private static void anyOfSeveralPaths() {
        // 0 reaches 3 through 1, which is lower, and through 2, which is higher.
        ProbeDeadlock x = new ProbeDeadlock(4, 5, 1);
        Due.begin(x, 50, 10, 60, 70);
        Due.granted(x, 1, 1);
        Due.granted(x, 2, 2);
        Due.granted(x, 3, 3, 4);
        Due.queued(x, 0, 1);
        Due.queued(x, 1, 3);
        Due.is("settle()", x.settle(), 0);
        due(x, 4, 3, 1);
        Due.queued(x, 0, 2);
        Due.queued(x, 2, 4);
        Due.is("settle()", x.settle(), 0);
        due(x, 4, 3, 1, 2, 0, 3, 0, 3, 2);
        Due.is("abort(2)", x.abort(2), true);
        due(x, 4, 3, 1);
        // By its place in a queue alone.
        Due.queued(x, 0, 3);
        due(x, 4, 3, 1);
        Due.is("settle()", x.settle(), 0);
        due(x, 4, 3, 1, 3, 0);
    }

    private static void wrongInputs() {
        ProbeDeadlock x = new ProbeDeadlock(5, 3, 1);
        Due.begin(x, 10, 20, 30);
        Due.granted(x, 1, 1);
        Due.granted(x, 0, 0);
        Due.queued(x, 0, 1);
        Due.queued(x, 1, 0);
        Due.queued(x, 2, 1);
        Due.is("settle()", x.settle(), 1);
        Due.states(x, 3, 1, 2, 0, 0);
        String before = Due.all(x);
        due(x, 5);
        for (int n : Due.FAR_OUT) {
            for (int t = 0; t < 5; t++) {
                Due.is("carries(" + n + ", " + t + ")", x.carries(n, t), false);
                Due.is("carries(" + t + ", " + n + ")", x.carries(t, n), false);
            }
            Due.is("carries(" + n + ", " + n + ")", x.carries(n, n), false);
        }
        Due.is("after carries", Due.all(x), before);
        ProbeDeadlock y = chainOf(1, 10, 20);
        Due.is("settle()", y.settle(), 0);
        due(y, 2, 1, 0);
        // 32 more is the same bit of an int.
        Due.is("carries(33, 0)", y.carries(33, 0), false);
        Due.is("carries(1, 32)", y.carries(1, 32), false);
    }
}
