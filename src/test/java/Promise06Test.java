/** Promise 6: abort. */
public final class Promise06Test {
    public static void main(String[] args) {
        waitingOne();
        runningOne();
        refusals();
        Due.end();
    }

    private static void waitingOne() {
        ProbeDeadlock x = new ProbeDeadlock(5, 6, 3);
        Due.begin(x, 10, 20, 30, 40, 50);
        Due.granted(x, 0, 1, 5);
        Due.granted(x, 1, 0, 3);
        Due.queued(x, 2, 0);
        Due.queued(x, 0, 0);
        Due.queued(x, 3, 0);
        Due.queued(x, 0, 3);
        Due.queued(x, 4, 1);
        Due.queued(x, 2, 1);
        Due.queued(x, 3, 5);
        Due.is("report(0)", x.report(0), 0);
        Due.is("abort(0)", x.abort(0), true);
        Due.states(x, 0, 1, 2, 2, 1);
        Due.is("priority(0)", x.priority(0), -1);
        Due.queue(x, 0, 2, 3);
        Due.queue(x, 1, 2);
        Due.queue(x, 3);
        Due.queue(x, 5);
        Due.is("holder(0)", x.holder(0), 1);
        Due.is("holder(1)", x.holder(1), 4);
        Due.is("holder(3)", x.holder(3), 1);
        Due.is("holder(5)", x.holder(5), 3);
        Due.is("reported(2, 0)", x.reported(2, 0), true);
        Due.is("reported(3, 0)", x.reported(3, 0), true);
        Due.is("reported(0, 0)", x.reported(0, 0), false);
        Due.is("reported(2, 1)", x.reported(2, 1), false);
        Due.is("begin(0, 3)", x.begin(0, 3), true);
        Due.queued(x, 0, 0);
        Due.is("reported(0, 0)", x.reported(0, 0), false);
    }

    private static void runningOne() {
        ProbeDeadlock x = new ProbeDeadlock(3, 3, 1);
        Due.begin(x, 10, 20, 30);
        Due.granted(x, 0, 0, 2);
        Due.queued(x, 1, 2, 0);
        Due.queued(x, 2, 0);
        Due.is("abort(0)", x.abort(0), true);
        Due.states(x, 0, 1, 2);
        Due.is("holder(0)", x.holder(0), 1);
        Due.is("holder(2)", x.holder(2), 1);
        Due.queue(x, 0, 2);
        Due.is("abort(1)", x.abort(1), true);
        Due.is("abort(2)", x.abort(2), true);
        Due.states(x, 0, 0, 0);
        Due.is("holder(0)", x.holder(0), -1);
    }

    private static void refusals() {
        ProbeDeadlock x = new ProbeDeadlock(5, 3, 2);
        Due.begin(x, 10, 20, 1);
        Due.granted(x, 0, 0);
        Due.granted(x, 2, 2);
        Due.queued(x, 1, 0);
        Due.queued(x, 2, 0);
        Due.queued(x, 0, 2);
        Due.is("settle()", x.settle(), 1);
        String before = Due.all(x);
        Due.is("abort of a VICTIM", x.abort(2), false);
        Due.is("abort of a FREE one", x.abort(3), false);
        Due.is("abort(5)", x.abort(5), false);
        for (int n : Due.FAR_OUT) {
            Due.is("abort(" + n + ")", x.abort(n), false);
        }
        Due.is("refused aborts", Due.all(x), before);
        Due.states(x, 1, 2, 3, 0, 0);
        Due.is("abort(1)", x.abort(1), true);
        Due.is("abort(0)", x.abort(0), true);
        Due.victims(x, 2);
    }
}
