/** Promise 10, priority: each sentence that names an edge, by itself. */
public final class Edges10Test {
    public static void main(String[] args) {
        Due.sentence("`priority(t)` answers the priority of t if t is in 0..T-1 and live", Edges10Test::live);
        Due.sentence("otherwise `NONE`.", Edges10Test::noTransaction);
        Due.sentence("So a `FREE` transaction gives `NONE`.", Edges10Test::free);
        Due.sentence("So a `VICTIM` transaction gives `NONE`.", Edges10Test::victim);
        Due.sentence("It changes nothing.", Edges10Test::changesNothing);
        Due.end();
    }

    private static void live() {
        for (int t = 0; t < 8; t++) {
            for (int p : new int[] {0, 1, 50, 98, 99}) {
                ProbeDeadlock x = new ProbeDeadlock(8, 1, 1);
                int other = (t + 1) % 8;
                Due.is("begin", x.begin(other, 42), true);
                Due.is("begin", x.begin(t, p), true);
                Due.is("priority of a RUNNING one", x.priority(t), p);
                Due.granted(x, other, 0);
                Due.queued(x, t, 0);
                Due.is("priority of a WAITING one", x.priority(t), p);
                Due.is("priority of the other", x.priority(other), 42);
            }
        }
    }

    private static void noTransaction() {
        for (int n = 2; n <= 8; n++) {
            ProbeDeadlock x = new ProbeDeadlock(n, 1, 1);
            for (int t = 0; t < n; t++) {
                Due.is("begin", x.begin(t, 99 - t), true);
            }
            for (int t : Edge.outside(n)) {
                Due.is("priority(" + t + ") with T " + n, x.priority(t), -1);
            }
            Due.is("priority(T-1)", x.priority(n - 1), 100 - n);
        }
    }

    private static void free() {
        for (int p : new int[] {0, 7, 99}) {
            ProbeDeadlock x = new ProbeDeadlock(3, 1, 1);
            for (int t = 0; t < 3; t++) {
                Due.is("priority of one not begun", x.priority(t), -1);
            }
            Due.begin(x, p, p, p);
            Due.is("commit(0)", x.commit(0), true);
            Due.is("abort(1)", x.abort(1), true);
            Due.is("priority after a commit", x.priority(0), -1);
            Due.is("priority after an abort", x.priority(1), -1);
            Due.is("priority(2)", x.priority(2), p);
        }
    }

    private static void victim() {
        for (int p : new int[] {0, 7, 99}) {
            ProbeDeadlock x = Edge.ring(1, p, 99);
            Due.is("settle()", x.settle(), 1);
            Due.is("priority of a VICTIM", x.priority(0), -1);
            Due.is("priority(1)", x.priority(1), 99);
            Due.is("begin(0, 3)", x.begin(0, 3), true);
            Due.is("priority of one begun again", x.priority(0), 3);
        }
    }

    private static void changesNothing() {
        Edge.changesNothing(Edge.PRIORITY);
    }
}
