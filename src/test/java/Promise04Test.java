/** Promise 4: drop. */
public final class Promise04Test {
    public static void main(String[] args) {
        releases();
        withdrawals();
        oneOfTwoWaits();
        refusals();
        Due.end();
    }

    private static void releases() {
        ProbeDeadlock x = new ProbeDeadlock(4, 4, 1);
        Due.begin(x, 10, 20, 30, 40);
        Due.granted(x, 0, 0, 1);
        Due.granted(x, 1, 2);
        Due.queued(x, 1, 0);
        Due.queued(x, 2, 0);
        Due.queued(x, 3, 0);
        Due.queued(x, 2, 1);
        Due.is("settle()", x.settle(), 0);
        Due.queued(x, 0, 2);

        Due.is("drop by a WAITING holder", x.drop(0, 0), 3);
        Due.is("holder(0)", x.holder(0), 1);
        Due.states(x, 2, 1, 2, 2);
        Due.queue(x, 0, 2, 3);
        Due.is("reported(1, 0)", x.reported(1, 0), false);
        Due.is("reported(2, 0)", x.reported(2, 0), true);
        Due.is("reported(3, 0)", x.reported(3, 0), true);
        Due.is("reported(0, 2)", x.reported(0, 2), false);
        Due.is("reported(2, 1)", x.reported(2, 1), true);

        // 2 still waits for lock 1 when it gets lock 0.
        Due.is("drop(1, 0)", x.drop(1, 0), 3);
        Due.is("holder(0)", x.holder(0), 2);
        Due.states(x, 2, 1, 2, 2);
        Due.queue(x, 0, 3);
        Due.is("drop(2, 0)", x.drop(2, 0), 3);
        Due.states(x, 2, 1, 2, 1);
        Due.is("drop(3, 0)", x.drop(3, 0), 3);
        Due.is("holder(0)", x.holder(0), -1);
        Due.queue(x, 0);
        Due.states(x, 2, 1, 2, 1);
        Due.is("holder(1)", x.holder(1), 0);
        Due.is("holder(2)", x.holder(2), 1);
        Due.queue(x, 1, 2);
        Due.queue(x, 2, 0);

        // Who takes the lock again stands at the end, not reported.
        Due.granted(x, 3, 0);
        Due.queued(x, 1, 0);
        Due.is("reported(1, 0)", x.reported(1, 0), false);
        Due.is("priority(1)", x.priority(1), 20);
    }

    private static void withdrawals() {
        for (int out = 1; out <= 3; out++) {
            ProbeDeadlock x = new ProbeDeadlock(5, 3, 2);
            Due.begin(x, 10, 20, 30, 40, 50);
            Due.granted(x, 0, 0, 1);
            Due.queued(x, 1, 0);
            Due.is("report(0)", x.report(0), 0);
            Due.queued(x, 2, 0);
            Due.queued(x, 3, 0);
            Due.queued(x, 2, 1);
            Due.is("drop(" + out + ", 0)", x.drop(out, 0), 4);
            Due.is("holder(0)", x.holder(0), 0);
            int first = out == 1 ? 2 : 1;
            int second = out == 3 ? 2 : 3;
            Due.queue(x, 0, first, second);
            Due.is("reported(1, 0)", x.reported(1, 0), out != 1);
            Due.is("reported(2, 0)", x.reported(2, 0), false);
            Due.is("reported(3, 0)", x.reported(3, 0), false);
            Due.states(x, 1, out == 1 ? 1 : 2, 2, out == 3 ? 1 : 2, 1);
            Due.is("again drop(" + out + ", 0)", x.drop(out, 0), 0);
            Due.queue(x, 1, 2);
        }
        ProbeDeadlock x = new ProbeDeadlock(2, 3, 1);
        Due.begin(x, 1, 2);
        Due.granted(x, 0, 0, 1);
        Due.queued(x, 1, 0, 1);
        Due.is("drop(1, 1)", x.drop(1, 1), 4);
        Due.states(x, 1, 2);
        Due.is("drop(1, 0)", x.drop(1, 0), 4);
        Due.states(x, 1, 1);
    }

    /** Whichever two locks 1 waits for, it runs only when both waits are over. */
    private static void oneOfTwoWaits() {
        for (int a = 0; a < 12; a++) {
            for (int b = 0; b < 12; b++) {
                if (a != b) {
                    ProbeDeadlock x = new ProbeDeadlock(2, 12, 4);
                    Due.begin(x, 1, 2);
                    Due.granted(x, 0, a, b);
                    Due.queued(x, 1, a, b);
                    Due.is("drop(0, " + a + ")", x.drop(0, a), 3);
                    Due.states(x, 1, 2);
                    Due.is("drop(1, " + b + ")", x.drop(1, b), 4);
                    Due.states(x, 1, 1);
                    Due.is("holder(" + a + ")", x.holder(a), 1);
                    Due.is("holder(" + b + ")", x.holder(b), 0);
                }
            }
        }
    }

    private static void refusals() {
        ProbeDeadlock x = new ProbeDeadlock(5, 3, 2);
        Due.begin(x, 10, 20, 1);
        Due.granted(x, 0, 0);
        Due.granted(x, 2, 2);
        Due.queued(x, 1, 0);
        Due.queued(x, 2, 0);
        Due.queued(x, 0, 2);
        Due.is("settle()", x.settle(), 1);
        String before = Due.all(x);
        Due.is("drop of a lock without holder", x.drop(0, 1), 0);
        Due.is("drop of another's lock", x.drop(1, 2), 0);
        Due.is("drop by a VICTIM of the lock it held", x.drop(2, 2), 0);
        Due.is("drop by a VICTIM of the lock it waited for", x.drop(2, 0), 0);
        Due.is("drop by a FREE one", x.drop(3, 1), 0);
        for (int n : Due.FAR_OUT) {
            Due.is("drop(" + n + ", 0)", x.drop(n, 0), 0);
            // -1 as a transaction must not be taken for the holder of a lock without one.
            Due.is("drop(" + n + ", 1)", x.drop(n, 1), 0);
            Due.is("drop(0, " + n + ")", x.drop(0, n), 0);
        }
        Due.is("drop(5, 0)", x.drop(5, 0), 0);
        Due.is("drop(0, 3)", x.drop(0, 3), 0);
        Due.is("refused drops", Due.all(x), before);

        Due.is("drop(0, 0)", x.drop(0, 0), 3);
        Due.victims(x, 2);
        Due.is("drop(1, 0)", x.drop(1, 0), 3);
        Due.victims(x, 2);
    }
}
