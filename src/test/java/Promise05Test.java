/** Promise 5: commit. */
public final class Promise05Test {
    public static void main(String[] args) {
        passesAllOn();
        refusals();
        Due.end();
    }

    private static void passesAllOn() {
        ProbeDeadlock x = new ProbeDeadlock(5, 5, 2);
        Due.begin(x, 10, 20, 30, 40, 50);
        Due.granted(x, 0, 4, 0, 2);
        Due.granted(x, 1, 1);
        Due.queued(x, 2, 0, 2, 1);
        Due.queued(x, 3, 0);
        Due.queued(x, 4, 2);
        Due.queued(x, 3, 4);
        Due.is("report(0)", x.report(0), 0);
        Due.is("commit(0)", x.commit(0), true);
        Due.states(x, 0, 1, 2, 2, 2);
        Due.is("priority(0)", x.priority(0), -1);
        Due.is("holder(0)", x.holder(0), 2);
        Due.is("holder(1)", x.holder(1), 1);
        Due.is("holder(2)", x.holder(2), 2);
        Due.is("holder(3)", x.holder(3), -1);
        Due.is("holder(4)", x.holder(4), 3);
        Due.queue(x, 0, 3);
        Due.queue(x, 1, 2);
        Due.queue(x, 2, 4);
        Due.queue(x, 4);
        Due.is("reported(2, 0)", x.reported(2, 0), false);
        Due.is("reported(3, 0)", x.reported(3, 0), true);
        Due.is("reported(4, 2)", x.reported(4, 2), true);
        Due.is("reported(2, 1)", x.reported(2, 1), false);
        Due.is("commit(1)", x.commit(1), true);
        Due.states(x, 0, 0, 1, 2, 2);
        Due.is("commit(2)", x.commit(2), true);
        Due.states(x, 0, 0, 0, 1, 1);
        Due.is("holder(0)", x.holder(0), 3);
        Due.is("holder(1)", x.holder(1), -1);
        Due.is("holder(2)", x.holder(2), 4);
        Due.is("commit(3)", x.commit(3), true);
        Due.is("commit(4)", x.commit(4), true);
        for (int l = 0; l < 5; l++) {
            Due.is("holder(" + l + ")", x.holder(l), -1);
            Due.queue(x, l);
        }
    }

    private static void refusals() {
        ProbeDeadlock x = new ProbeDeadlock(5, 3, 2);
        Due.begin(x, 10, 20, 1, 5);
        Due.granted(x, 0, 0);
        Due.granted(x, 2, 2);
        Due.queued(x, 1, 0);
        Due.queued(x, 2, 0);
        Due.queued(x, 0, 2);
        Due.is("settle()", x.settle(), 1);
        Due.states(x, 1, 2, 3, 1, 0);
        String before = Due.all(x);
        Due.is("commit of a WAITING one", x.commit(1), false);
        Due.is("commit of a VICTIM", x.commit(2), false);
        Due.is("commit of a FREE one", x.commit(4), false);
        Due.is("commit(5)", x.commit(5), false);
        for (int n : Due.FAR_OUT) {
            Due.is("commit(" + n + ")", x.commit(n), false);
        }
        Due.is("refused commits", Due.all(x), before);
        Due.is("commit without locks", x.commit(3), true);
        Due.is("commit again", x.commit(3), false);
        Due.states(x, 1, 2, 3, 0, 0);
        Due.is("commit(0)", x.commit(0), true);
        Due.victims(x, 2);
    }
}
