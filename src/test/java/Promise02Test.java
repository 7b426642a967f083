/** Promise 2: begin. */
public final class Promise02Test {
    public static void main(String[] args) {
        wrongInputs();
        priorities();
        liveIsRefused();
        againAfterEnds();
        Due.end();
    }

    private static void wrongInputs() {
        ProbeDeadlock x = new ProbeDeadlock(3, 2, 1);
        String start = Due.all(x);
        for (int t : new int[] {-1, 3, 8, Integer.MIN_VALUE, Integer.MAX_VALUE}) {
            Due.is("begin(" + t + ", 5)", x.begin(t, 5), false);
        }
        for (int p : new int[] {-1, 100, Integer.MIN_VALUE, Integer.MAX_VALUE}) {
            Due.is("begin(0, " + p + ")", x.begin(0, p), false);
            Due.is("begin(3, " + p + ")", x.begin(3, p), false);
        }
        Due.is("refused begins", Due.all(x), start);
    }

    private static void priorities() {
        for (int p = 0; p <= 99; p++) {
            ProbeDeadlock x = new ProbeDeadlock(8, 2, 1);
            Due.is("begin(7, " + p + ")", x.begin(7, p), true);
            Due.is("priority(7)", x.priority(7), p);
            Due.states(x, 0, 0, 0, 0, 0, 0, 0, 1);
        }
    }

    private static void liveIsRefused() {
        ProbeDeadlock x = new ProbeDeadlock(3, 2, 1);
        Due.begin(x, 10, 20);
        Due.granted(x, 0, 0);
        Due.queued(x, 1, 0);
        String before = Due.all(x);
        Due.is("begin of a RUNNING one", x.begin(0, 30), false);
        Due.is("begin of a WAITING one", x.begin(1, 30), false);
        Due.is("refused begins", Due.all(x), before);
    }

    private static void againAfterEnds() {
        ProbeDeadlock x = new ProbeDeadlock(4, 4, 2);
        Due.begin(x, 1, 50, 60, 70);
        Due.granted(x, 0, 0, 2);
        Due.granted(x, 1, 1);
        Due.queued(x, 0, 1);
        Due.queued(x, 1, 0);
        Due.queued(x, 2, 0);
        Due.queued(x, 3, 1);
        Due.is("settle()", x.settle(), 1);
        Due.victims(x, 0);
        Due.is("begin of a VICTIM", x.begin(0, 99), true);
        Due.victims(x, 0);
        Due.states(x, 1, 1, 2, 2);
        Due.is("priority(0)", x.priority(0), 99);
        Due.is("holder(0)", x.holder(0), 1);
        Due.is("holder(1)", x.holder(1), 1);
        Due.is("holder(2)", x.holder(2), -1);
        Due.queue(x, 0, 2);
        Due.queue(x, 1, 3);
        Due.is("reported(2, 0)", x.reported(2, 0), true);
        Due.is("reported(3, 1)", x.reported(3, 1), true);
        for (int u = 0; u < 4; u++) {
            Due.is("waitsFor(0, " + u + ")", x.waitsFor(0, u), 0);
            Due.is("waitsFor(" + u + ", 0)", x.waitsFor(u, 0), 0);
        }
        Due.is("commit(0)", x.commit(0), true);
        Due.is("begin after commit", x.begin(0, 7), true);
        Due.is("abort(0)", x.abort(0), true);
        Due.is("begin after abort", x.begin(0, 8), true);
        Due.is("priority(0)", x.priority(0), 8);
        Due.victims(x, 0);
    }
}
