/** Promise 9: state. */
public final class Promise09Test {
    public static void main(String[] args) {
        ProbeDeadlock x = new ProbeDeadlock(4, 3, 1);
        Due.states(x, 0, 0, 0, 0);
        Due.begin(x, 10, 20, 30);
        Due.states(x, 1, 1, 1, 0);
        Due.granted(x, 0, 0);
        Due.granted(x, 1, 1);
        Due.queued(x, 1, 0);
        Due.states(x, 1, 2, 1, 0);
        Due.queued(x, 0, 1);
        Due.queued(x, 2, 1);
        Due.is("settle()", x.settle(), 1);
        Due.states(x, 3, 1, 2, 0);
        String before = Due.all(x);
        Due.is("state(4)", x.state(4), -1);
        Due.is("state(8)", x.state(8), -1);
        for (int n : Due.FAR_OUT) {
            Due.is("state(" + n + ")", x.state(n), -1);
        }
        Due.is("after state", Due.all(x), before);
        Due.is("begin(0, 0)", x.begin(0, 0), true);
        Due.is("commit(1)", x.commit(1), true);
        Due.states(x, 1, 0, 1, 0);
        Due.is("abort(0)", x.abort(0), true);
        Due.states(x, 0, 0, 1, 0);
        Due.end();
    }
}
