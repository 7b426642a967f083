/** Promise 16: victims and victim. */
public final class Promise16Test {
    public static void main(String[] args) {
        ProbeDeadlock x = new ProbeDeadlock(6, 6, 2);
        Due.victims(x);
        Due.begin(x, 30, 40, 20, 50, 60, 70);
        for (int t = 0; t < 4; t++) {
            Due.granted(x, t, t);
        }
        Due.queued(x, 0, 1);
        Due.queued(x, 1, 0);
        Due.queued(x, 2, 3);
        Due.queued(x, 3, 2);
        Due.victims(x);
        Due.is("settle()", x.settle(), 2);
        Due.victims(x, 2, 0);
        String before = Due.all(x);
        int[] wrong = {-1, -2, 2, 3, 7, 8, Integer.MIN_VALUE, Integer.MAX_VALUE};
        for (int k : wrong) {
            Due.is("victim(" + k + ")", x.victim(k), -1);
        }
        Due.is("after victim", Due.all(x), before);
        staysThrough(x);
        Due.is("report(1)", x.report(1), 0);
        Due.victims(x);
        shorterListHidesTheOldOne();
        Due.end();
    }

    private static void staysThrough(ProbeDeadlock x) {
        Due.is("begin(2, 1)", x.begin(2, 1), true);
        Due.victims(x, 2, 0);
        Due.is("request(2, 5)", x.request(2, 5), 1);
        Due.is("request(4, 5)", x.request(4, 5), 2);
        Due.victims(x, 2, 0);
        Due.is("drop(4, 5)", x.drop(4, 5), 4);
        Due.is("drop(2, 5)", x.drop(2, 5), 3);
        Due.is("commit(2)", x.commit(2), true);
        Due.is("abort(5)", x.abort(5), true);
        Due.is("report(2)", x.report(2), -1);
        Due.is("report(-1)", x.report(-1), -1);
        Due.is("begin(9, 1)", x.begin(9, 1), false);
        Due.is("request(9, 1)", x.request(9, 1), 0);
        Due.is("drop(9, 1)", x.drop(9, 1), 0);
        Due.is("commit(9)", x.commit(9), false);
        Due.is("abort(9)", x.abort(9), false);
        Due.victims(x, 2, 0);
    }

    private static void shorterListHidesTheOldOne() {
        ProbeDeadlock x = new ProbeDeadlock(3, 3, 1);
        Due.begin(x, 10, 20, 30);
        for (int t = 0; t < 3; t++) {
            Due.granted(x, t, t);
        }
        for (int t = 0; t < 3; t++) {
            Due.queued(x, t, (t + 1) % 3, (t + 2) % 3);
        }
        Due.is("settle()", x.settle(), 2);
        Due.victims(x, 0, 1);
        // The same transaction may stand in the next list again.
        Due.begin(x, 40);
        Due.is("begin(1, 5)", x.begin(1, 5), true);
        Due.is("drop(2, 1)", x.drop(2, 1), 3);
        Due.granted(x, 1, 1);
        Due.queued(x, 1, 2);
        Due.queued(x, 2, 1);
        Due.is("report(0)", x.report(0), 1);
        Due.victims(x, 1);
    }
}
