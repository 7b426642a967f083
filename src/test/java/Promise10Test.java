/** Promise 10: priority. */
public final class Promise10Test {
    public static void main(String[] args) {
        ProbeDeadlock x = new ProbeDeadlock(5, 3, 1);
        due(x, -1, -1, -1, -1, -1);
        Due.begin(x, 0, 99, 30, 7);
        due(x, 0, 99, 30, 7, -1);
        Due.granted(x, 0, 0);
        Due.granted(x, 1, 1);
        Due.queued(x, 1, 0);
        Due.queued(x, 0, 1);
        due(x, 0, 99, 30, 7, -1);
        Due.is("settle()", x.settle(), 1);
        due(x, -1, 99, 30, 7, -1);
        Due.is("begin(1, 5) is refused", x.begin(1, 5), false);
        Due.is("commit(2)", x.commit(2), true);
        Due.is("abort(3)", x.abort(3), true);
        due(x, -1, 99, -1, -1, -1);
        Due.is("begin(0, 44)", x.begin(0, 44), true);
        Due.is("begin(3, 0)", x.begin(3, 0), true);
        due(x, 44, 99, -1, 0, -1);
        String before = Due.all(x);
        Due.is("priority(5)", x.priority(5), -1);
        for (int n : Due.FAR_OUT) {
            Due.is("priority(" + n + ")", x.priority(n), -1);
        }
        Due.is("after priority", Due.all(x), before);
        Due.end();
    }

    private static void due(ProbeDeadlock x, int... priorities) {
        for (int t = 0; t < priorities.length; t++) {
            Due.is("priority(" + t + ")", x.priority(t), priorities[t]);
        }
    }
}
