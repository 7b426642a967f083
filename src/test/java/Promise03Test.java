/** Promise 3: request. */
public final class Promise03Test {
    public static void main(String[] args) {
        grantsAndQueues();
        refusals();
        marksStay();
        fullQueues();
        neverAVictim();
        Due.end();
    }

    private static void grantsAndQueues() {
        ProbeDeadlock x = new ProbeDeadlock(4, 4, 2);
        Due.begin(x, 10, 20, 30);
        Due.granted(x, 0, 0, 3);
        Due.states(x, 1, 1, 1, 0);
        Due.queued(x, 1, 0);
        Due.states(x, 1, 2, 1, 0);
        Due.granted(x, 1, 1);
        Due.states(x, 1, 2, 1, 0);
        Due.queued(x, 1, 3);
        Due.queued(x, 2, 0);
        Due.states(x, 1, 2, 2, 0);
        Due.is("holder(0)", x.holder(0), 0);
        Due.is("holder(1)", x.holder(1), 1);
        Due.is("holder(2)", x.holder(2), -1);
        Due.is("holder(3)", x.holder(3), 0);
        Due.queue(x, 0, 1, 2);
        Due.queue(x, 1);
        Due.queue(x, 3, 1);
    }

    private static void refusals() {
        ProbeDeadlock x = new ProbeDeadlock(5, 3, 2);
        Due.begin(x, 10, 20, 1);
        Due.granted(x, 0, 0);
        Due.granted(x, 2, 2);
        Due.queued(x, 1, 0);
        Due.queued(x, 2, 0);
        Due.queued(x, 0, 2);
        Due.is("settle()", x.settle(), 1);
        Due.states(x, 1, 2, 3, 0, 0);
        String before = Due.all(x);
        Due.is("request of a lock one holds", x.request(0, 0), 0);
        Due.is("request of a lock one waits for", x.request(1, 0), 0);
        Due.is("request by a VICTIM, free lock", x.request(2, 1), 0);
        Due.is("request by a VICTIM, held lock", x.request(2, 0), 0);
        Due.is("request by a FREE one", x.request(3, 1), 0);
        for (int n : Due.FAR_OUT) {
            Due.is("request(" + n + ", 1)", x.request(n, 1), 0);
            Due.is("request(0, " + n + ")", x.request(0, n), 0);
            Due.is("request(" + n + ", " + n + ")", x.request(n, n), 0);
        }
        Due.is("request(5, 1)", x.request(5, 1), 0);
        Due.is("request(0, 3)", x.request(0, 3), 0);
        Due.is("refused requests", Due.all(x), before);
    }

    private static void marksStay() {
        ProbeDeadlock x = new ProbeDeadlock(4, 2, 2);
        Due.begin(x, 1, 2, 3, 4);
        Due.granted(x, 3, 0);
        Due.queued(x, 1, 0);
        Due.is("report(0)", x.report(0), 0);
        Due.queued(x, 0, 0);
        Due.queue(x, 0, 1, 0);
        Due.is("reported(1, 0)", x.reported(1, 0), true);
        Due.is("reported(0, 0)", x.reported(0, 0), false);
        // An entry that comes back is a new one.
        Due.is("drop(1, 0)", x.drop(1, 0), 4);
        Due.queued(x, 1, 0);
        Due.queue(x, 0, 0, 1);
        Due.is("reported(1, 0)", x.reported(1, 0), false);
        Due.is("waitsFor(1, 0)", x.waitsFor(1, 0), 1);
    }

    private static void fullQueues() {
        ProbeDeadlock x = new ProbeDeadlock(8, 12, 4);
        Due.begin(x, 0, 1, 2, 3, 4, 5, 6, 7);
        for (int l = 0; l < 12; l++) {
            Due.granted(x, l % 8, l);
        }
        for (int l = 0; l < 12; l++) {
            for (int step = 7; step > 0; step--) {
                Due.queued(x, (l + step) % 8, l);
            }
            for (int t = 0; t < 8; t++) {
                Due.is("request(" + t + ", " + l + ")", x.request(t, l), 0);
            }
        }
        for (int l = 0; l < 12; l++) {
            Due.is("holder(" + l + ")", x.holder(l), l % 8);
            for (int i = 0; i < 7; i++) {
                Due.is("waiter(" + l + ", " + i + ")", x.waiter(l, i), (l + 7 - i) % 8);
            }
        }
    }

    private static void neverAVictim() {
        ProbeDeadlock x = new ProbeDeadlock(3, 3, 1);
        Due.begin(x, 5, 6, 7);
        Due.granted(x, 0, 0);
        Due.granted(x, 1, 1);
        Due.queued(x, 0, 1);
        Due.queued(x, 1, 0);
        Due.is("settle()", x.settle(), 1);
        Due.is("begin(0, 5)", x.begin(0, 5), true);
        Due.granted(x, 0, 2);
        Due.queued(x, 0, 0);
        Due.is("settle()", x.settle(), 0);
        // This closes a cycle with a reported edge on it.
        Due.queued(x, 1, 2);
        Due.states(x, 2, 2, 1);
        Due.victims(x);
    }
}
