/** Promise 9, state: each sentence that names an edge, by itself. */
public final class Edges09Test {
    public static void main(String[] args) {
        Due.sentence("`state(t)` answers the present state of t: `FREE`, `RUNNING`, `WAITING` or `VICTIM`;",
            Edges09Test::present);
        Due.sentence("`NONE` if t is not in 0..T-1.", Edges09Test::noTransaction);
        Due.sentence("It changes nothing.", Edges09Test::changesNothing);
        Due.end();
    }

    private static void present() {
        Due.states(Edge.rich(), 1, 2, 3, 0, 2, 0);
        for (int t = 0; t < 8; t++) {
            // t goes through all four states, and nobody's state goes with it but u's.
            int u = (t + 3) % 8;
            ProbeDeadlock x = new ProbeDeadlock(8, 2, 1);
            states(x, t, 0, u, 0);
            x.begin(t, 1);
            states(x, t, 1, u, 0);
            x.begin(u, 2);
            x.request(t, 0);
            x.request(u, 1);
            states(x, t, 1, u, 1);
            x.request(t, 1);
            states(x, t, 2, u, 1);
            x.request(u, 0);
            states(x, t, 2, u, 2);
            Due.is("settle()", x.settle(), 1);
            states(x, t, 3, u, 1);
            x.begin(t, 1);
            states(x, t, 1, u, 1);
            x.commit(t);
            states(x, t, 0, u, 1);
            x.abort(u);
            states(x, t, 0, u, 0);
        }
    }

    private static void states(ProbeDeadlock x, int t, int stateOfT, int u, int stateOfU) {
        for (int other = 0; other < 8; other++) {
            Due.is("state(" + other + ")", x.state(other), other == t ? stateOfT : other == u ? stateOfU : 0);
        }
    }

    private static void noTransaction() {
        for (int n = 2; n <= 8; n++) {
            ProbeDeadlock x = new ProbeDeadlock(n, 1, 1);
            for (int t = 0; t < n; t++) {
                Due.is("state(" + t + ") with T " + n, x.state(t), 0);
            }
            for (int t : Edge.outside(n)) {
                Due.is("state(" + t + ") with T " + n, x.state(t), -1);
            }
        }
    }

    private static void changesNothing() {
        Edge.changesNothing(Edge.STATE);
    }
}
