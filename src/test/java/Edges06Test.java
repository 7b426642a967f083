/** Promise 6, abort: each sentence that names an edge, by itself. */
public final class Edges06Test {
    public static void main(String[] args) {
        Due.sentence("`abort(t)` is refused (`false`) if t is not in 0..T-1", Edges06Test::noTransaction);
        Due.sentence("`abort(t)` is refused (`false`) if t is not live; so a `FREE` transaction stays `FREE`",
            Edges06Test::free);
        Due.sentence("`abort(t)` is refused (`false`) if t is not live; so a `VICTIM` stays `VICTIM`.",
            Edges06Test::victim);
        Due.sentence("Otherwise t, `RUNNING` or `WAITING`, is ended (see Terms): first its entries leave all queues, "
            + "then its locks are passed on in ascending order.", Edges06Test::ended);
        Due.sentence("Its state becomes `FREE` (not `VICTIM`), and the answer is `true`.", Edges06Test::becomesFree);
        Due.sentence("The list of victims is not changed.", Edges06Test::listStays);
        Due.end();
    }

    private static void noTransaction() {
        for (int n = 2; n <= 8; n++) {
            ProbeDeadlock x = new ProbeDeadlock(n, 3, 2);
            for (int t = 0; t < n; t++) {
                Due.is("begin", x.begin(t, t), true);
            }
            Due.granted(x, 0, 0);
            Due.queued(x, 1, 0);
            String before = Due.all(x);
            for (int t : Edge.outside(n)) {
                Due.is("abort(" + t + ") with T " + n, x.abort(t), false);
            }
            Due.is("refused aborts", Due.all(x), before);
            Due.is("abort(T-1)", x.abort(n - 1), true);
            Due.is("abort(0)", x.abort(0), true);
        }
    }

    private static void free() {
        ProbeDeadlock x = new ProbeDeadlock(3, 2, 1);
        String before = Due.all(x);
        for (int t = 0; t < 3; t++) {
            Due.is("abort of one not begun", x.abort(t), false);
            Due.is("state(" + t + ")", x.state(t), ProbeDeadlock.FREE);
        }
        Due.begin(x, 5, 6);
        Due.is("commit(0)", x.commit(0), true);
        Due.is("abort(1)", x.abort(1), true);
        Due.is("abort after a commit", x.abort(0), false);
        Due.is("abort after an abort", x.abort(1), false);
        Due.is("refused aborts", Due.all(x), before);
    }

    private static void victim() {
        ProbeDeadlock x = Edge.allForAll(1, 1, 2, 3, 4, 5, 6, 7, 8);
        Due.is("settle()", x.settle(), 7);
        String before = Due.all(x);
        for (int t = 0; t < 7; t++) {
            Due.is("abort of a VICTIM", x.abort(t), false);
            Due.is("state(" + t + ")", x.state(t), ProbeDeadlock.VICTIM);
        }
        Due.is("refused aborts", Due.all(x), before);
    }

    private static void ended() {
        // All stand in all queues but those of their own locks; the one that is aborted leaves a row of seven.
        for (int out = 0; out < 8; out++) {
            ProbeDeadlock x = Edge.allForAll(3, 5, 5, 5, 5, 5, 5, 5, 5);
            Due.is("abort(" + out + ")", x.abort(out), true);
            for (int l = 0; l < 8; l++) {
                int holder = l == out ? (out == 0 ? 1 : 0) : l;
                Due.is("holder(" + l + ") without " + out, x.holder(l), holder);
                int place = 0;
                for (int t = 0; t < 8; t++) {
                    if (t != out && t != holder && t != l) {
                        Due.is("waiter(" + l + ", " + place + ") without " + out, x.waiter(l, place), t);
                        place++;
                    }
                }
                Due.is("behind the last", x.waiter(l, place), -1);
            }
            Due.is("waitsFor nobody", x.waitsFor(out, (out + 1) % 8), 0);
        }
        runningOnes();
    }

    private static void runningOnes() {
        ProbeDeadlock x = new ProbeDeadlock(3, 12, 4);
        Due.begin(x, 5, 5, 5);
        Due.is("abort without locks", x.abort(2), true);
        for (int l = 0; l < 12; l++) {
            Due.granted(x, 0, l);
        }
        Due.queued(x, 1, 0, 11);
        Due.is("abort with all locks", x.abort(0), true);
        Due.holders(x, 1, -1, -1, -1, -1, -1, -1, -1, -1, -1, -1, 1);
        Due.states(x, 0, 1, 0);
    }

    private static void becomesFree() {
        ProbeDeadlock x = Edge.rich();
        Due.is("abort of a WAITING one, reported", x.abort(1), true);
        Due.is("abort of a WAITING one, not reported", x.abort(4), true);
        Due.is("abort of a RUNNING one", x.abort(0), true);
        Due.states(x, 0, 0, 3, 0, 0, 0);
        for (int t = 0; t < 6; t++) {
            Due.is("priority(" + t + ")", x.priority(t), -1);
        }
        // One that was a victim before is FREE when it is aborted now.
        Due.is("begin(2, 5)", x.begin(2, 5), true);
        Due.is("abort(2)", x.abort(2), true);
        Due.is("state(2)", x.state(2), ProbeDeadlock.FREE);
    }

    private static void listStays() {
        ProbeDeadlock x = Edge.rich();
        for (int t : new int[] {4, 0, 1}) {
            Due.is("abort(" + t + ")", x.abort(t), true);
            Due.victims(x, 2);
        }
        Due.is("begin(2, 5)", x.begin(2, 5), true);
        Due.is("abort of one in the list", x.abort(2), true);
        Due.victims(x, 2);
        Due.is("a refused abort", x.abort(2), false);
        Due.victims(x, 2);
    }
}
