/** Promise 11, holder: each sentence that names an edge, by itself. */
public final class Edges11Test {
    public static void main(String[] args) {
        Due.sentence("`holder(l)` answers the number of the transaction that holds lock l;", Edges11Test::holds);
        Due.sentence("`NONE` if l is not in 0..L-1", Edges11Test::noLock);
        Due.sentence("`NONE` if the lock has no holder.", Edges11Test::noHolder);
        Due.sentence("It changes nothing.", Edges11Test::changesNothing);
        Due.end();
    }

    private static void holds() {
        for (int l = 0; l < 12; l++) {
            for (int t = 0; t < 8; t++) {
                ProbeDeadlock x = new ProbeDeadlock(8, 12, 4);
                Due.is("begin", x.begin(t, 0), true);
                Due.granted(x, t, l);
                for (int other = 0; other < 12; other++) {
                    Due.is("holder(" + other + ")", x.holder(other), other == l ? t : -1);
                }
            }
        }
    }

    private static void noLock() {
        for (int n = 1; n <= 12; n++) {
            ProbeDeadlock x = new ProbeDeadlock(2, n, 1);
            Due.begin(x, 1);
            for (int l = 0; l < n; l++) {
                Due.granted(x, 0, l);
            }
            for (int l : Edge.outside(n)) {
                Due.is("holder(" + l + ") with L " + n, x.holder(l), -1);
            }
            Due.is("holder(L-1)", x.holder(n - 1), 0);
        }
    }

    private static void noHolder() {
        for (int l = 0; l < 12; l++) {
            ProbeDeadlock x = new ProbeDeadlock(2, 12, 4);
            Due.is("never held", x.holder(l), -1);
            Due.begin(x, 1, 2);
            Due.granted(x, 0, l);
            Due.is("drop", x.drop(0, l), 3);
            Due.is("dropped", x.holder(l), -1);
            Due.granted(x, 0, l);
            Due.is("commit(0)", x.commit(0), true);
            Due.is("committed", x.holder(l), -1);
            Due.granted(x, 1, l);
            Due.is("abort(1)", x.abort(1), true);
            Due.is("aborted", x.holder(l), -1);
        }
        ProbeDeadlock x = Edge.holderOfFive();
        Edge.loseFive(x, "victim");
        Due.is("held by a victim", x.holder(5), -1);
    }

    private static void changesNothing() {
        Edge.changesNothing(Edge.HOLDER);
    }
}
