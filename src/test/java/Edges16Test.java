/** Promise 16, victims and victim: each sentence that names an edge, by itself. */
public final class Edges16Test {
    public static void main(String[] args) {
        Due.sentence("`victims()` answers the length of the list of victims: "
            + "that of the latest `report` or `settle` that was not refused;", Edges16Test::latest);
        Due.sentence("0 if there has been none.", Edges16Test::none);
        Due.sentence("`victim(k)` answers the k-th in that list, k = 0 being the first put there;", Edges16Test::kth);
        Due.sentence("`NONE` if k is negative, for every int k.", Edges16Test::negative);
        Due.sentence("`NONE` if k is not less than `victims()`, for every int k.", Edges16Test::tooLarge);
        Due.sentence("The list stays as it is through every call other than a `report` or `settle` "
            + "that is not refused", Edges16Test::stays);
        Due.sentence("even if a transaction in it has been begun again since.", Edges16Test::begunAgain);
        Due.sentence("Both calls change nothing.", Edges16Test::changesNothing);
        Due.end();
    }

    /** So many victims, 0 to 7, of the least object in which they can be. */
    private static ProbeDeadlock withVictims(int count) {
        int[] priorities = new int[Math.max(2, count + 1)];
        ProbeDeadlock x = Edge.allForAll(1, priorities);
        if (count == 0) {
            Due.is("abort(0)", x.abort(0), true);
        }
        Due.is("settle()", x.settle(), count);
        return x;
    }

    private static void latest() {
        for (int count = 0; count <= 7; count++) {
            ProbeDeadlock x = withVictims(count);
            Due.is("victims()", x.victims(), count);
            Due.is("a refused report", x.report(1), -1);
            Due.is("victims()", x.victims(), count);
            Due.is("report(0)", x.report(0), 0);
            Due.is("victims()", x.victims(), 0);
            Due.is("a refused report", x.report(-1), -1);
            Due.is("victims()", x.victims(), 0);
        }
        ProbeDeadlock y = Edge.ring(1, 1, 2, 3);
        Due.is("report(0)", y.report(0), 1);
        Due.is("victims() of a report", y.victims(), 1);
        Due.is("settle()", y.settle(), 0);
        Due.is("victims() of a settle", y.victims(), 0);
    }

    private static void none() {
        ProbeDeadlock x = new ProbeDeadlock(4, 4, 1);
        Due.victims(x);
        Due.begin(x, 1, 2, 3, 4);
        Due.granted(x, 0, 0);
        Due.granted(x, 1, 1);
        Due.queued(x, 0, 1);
        Due.queued(x, 1, 0);
        Due.is("a refused report", x.report(1), -1);
        Due.is("commit(2)", x.commit(2), true);
        Due.is("abort(0)", x.abort(0), true);
        Due.victims(x);
    }

    private static void kth() {
        int[][] priorities = {{1, 2, 3, 4, 5, 6, 7, 8}, {8, 7, 6, 5, 4, 3, 2, 1}, {5, 5, 5, 5, 5, 5, 5, 5},
            {50, 20, 70, 20, 99, 0, 50, 30}};
        int[][] lists = {{0, 1, 2, 3, 4, 5, 6}, {7, 6, 5, 4, 3, 2, 1}, {0, 1, 2, 3, 4, 5, 6}, {5, 1, 3, 7, 0, 6, 2}};
        for (int i = 0; i < lists.length; i++) {
            ProbeDeadlock x = Edge.allForAll(2, priorities[i]);
            Due.is("settle()", x.settle(), 7);
            for (int k = 0; k < 7; k++) {
                Due.is("victim(" + k + ")", x.victim(k), lists[i][k]);
            }
        }
    }

    private static void negative() {
        for (int count = 0; count <= 7; count++) {
            ProbeDeadlock x = withVictims(count);
            for (int k : Edge.outside(8)) {
                if (k < 0) {
                    Due.is("victim(" + k + ") of " + count, x.victim(k), -1);
                }
            }
        }
    }

    private static void tooLarge() {
        for (int count = 0; count <= 7; count++) {
            ProbeDeadlock x = withVictims(count);
            for (int k : Edge.outside(count)) {
                if (k >= 0) {
                    Due.is("victim(" + k + ") of " + count, x.victim(k), -1);
                }
            }
            // What stood there before is not seen any more.
            Due.is("settle()", x.settle(), 0);
            for (int k = 0; k <= 8; k++) {
                Due.is("victim(" + k + ") of 0", x.victim(k), -1);
            }
        }
    }

    private static void stays() {
        ProbeDeadlock x = Edge.rich();
        Due.is("begin(3, 5)", x.begin(3, 5), true);
        Due.victims(x, 2);
        Due.granted(x, 3, 4);
        Due.victims(x, 2);
        Due.queued(x, 3, 0);
        Due.victims(x, 2);
        Due.is("drop(3, 0)", x.drop(3, 0), 4);
        Due.victims(x, 2);
        Due.is("drop(3, 4)", x.drop(3, 4), 3);
        Due.victims(x, 2);
        Due.is("commit(3)", x.commit(3), true);
        Due.victims(x, 2);
        Due.is("abort(4)", x.abort(4), true);
        Due.victims(x, 2);
        Due.is("abort(1)", x.abort(1), true);
        Due.victims(x, 2);
        for (int n : new int[] {Integer.MIN_VALUE, -1, 7, 100, Integer.MAX_VALUE}) {
            Due.is("begin(" + n + ", 1)", x.begin(n, 1), false);
            Due.is("request(" + n + ", 1)", x.request(n, 1), 0);
            Due.is("drop(" + n + ", 1)", x.drop(n, 1), 0);
            Due.is("commit(" + n + ")", x.commit(n), false);
            Due.is("abort(" + n + ")", x.abort(n), false);
            Due.is("report(" + n + ")", x.report(n), -1);
            Due.victims(x, 2);
        }
        Due.is("commit(0)", x.commit(0), true);
        Due.all(x);
        Due.victims(x, 2);
    }

    private static void begunAgain() {
        ProbeDeadlock x = Edge.allForAll(1, 5, 1, 4, 2, 3);
        Due.is("settle()", x.settle(), 4);
        for (int t = 1; t < 5; t++) {
            Due.is("begin(" + t + ", 9)", x.begin(t, 9), true);
            Due.victims(x, 1, 3, 4, 2);
        }
        Due.queued(x, 1, 0);
        Due.is("abort(1)", x.abort(1), true);
        Due.is("commit(2)", x.commit(2), true);
        Due.victims(x, 1, 3, 4, 2);
    }

    private static void changesNothing() {
        Edge.changesNothing(Edge.VICTIMS);
        Edge.changesNothing(Edge.VICTIM);
    }
}
