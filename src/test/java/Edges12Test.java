/** Promise 12, waiter: each sentence that names an edge, by itself. */
public final class Edges12Test {
    private static final int[] ORDER = {5, 0, 7, 1, 6, 2, 4};

    public static void main(String[] args) {
        Due.sentence("`waiter(l, i)` answers the transaction with i entries before it in the queue of lock l; "
            + "i = 0 gives the first.", Edges12Test::entriesBefore);
        Due.sentence("The holder is not in the queue and is not counted.", Edges12Test::holderIsNotCounted);
        Due.sentence("It answers `NONE` if l is not in 0..L-1", Edges12Test::noLock);
        Due.sentence("It answers `NONE` if i is negative, for every int i.", Edges12Test::negative);
        Due.sentence("It answers `NONE` if the queue has i entries or fewer, for every int i.", Edges12Test::tooLarge);
        Due.sentence("It changes nothing.", Edges12Test::changesNothing);
        Due.end();
    }

    /** 3 holds lock l, and so many of the others stand in its queue. */
    private static ProbeDeadlock queueOf(int l, int length) {
        ProbeDeadlock x = new ProbeDeadlock(8, 12, 3);
        Due.begin(x, 0, 10, 20, 30, 40, 50, 60, 99);
        Due.granted(x, 3, l);
        for (int i = 0; i < length; i++) {
            Due.queued(x, ORDER[i], l);
        }
        return x;
    }

    private static void entriesBefore() {
        for (int l = 0; l < 12; l++) {
            for (int length = 1; length <= 7; length++) {
                ProbeDeadlock x = queueOf(l, length);
                for (int i = 0; i < length; i++) {
                    Due.is("waiter(" + l + ", " + i + ")", x.waiter(l, i), ORDER[i]);
                }
            }
        }
        // The places move up when one before leaves, and do not when one behind does.
        ProbeDeadlock x = queueOf(11, 7);
        Due.is("drop(7, 11)", x.drop(7, 11), 4);
        Due.queue(x, 11, 5, 0, 1, 6, 2, 4);
        Due.is("drop(4, 11)", x.drop(4, 11), 4);
        Due.queue(x, 11, 5, 0, 1, 6, 2);
        Due.is("abort(5)", x.abort(5), true);
        Due.queue(x, 11, 0, 1, 6, 2);
    }

    private static void holderIsNotCounted() {
        for (int l = 0; l < 12; l++) {
            ProbeDeadlock x = queueOf(l, 0);
            Due.is("waiter of a held lock with an empty queue", x.waiter(l, 0), -1);
            ProbeDeadlock y = queueOf(l, 7);
            for (int i = -1; i <= 8; i++) {
                Due.is("waiter(" + l + ", " + i + ") is the holder", y.waiter(l, i) == 3, false);
            }
            Due.is("drop(3, l)", y.drop(3, l), 3);
            Due.queue(y, l, 0, 7, 1, 6, 2, 4);
        }
    }

    private static void noLock() {
        for (int n = 1; n <= 12; n++) {
            ProbeDeadlock x = new ProbeDeadlock(3, n, 1);
            Due.begin(x, 1, 2, 3);
            for (int l = 0; l < n; l++) {
                Due.granted(x, 0, l);
                Due.queued(x, 1, l);
                Due.queued(x, 2, l);
            }
            for (int l : Edge.outside(n)) {
                for (int i = -1; i < 4; i++) {
                    Due.is("waiter(" + l + ", " + i + ") with L " + n, x.waiter(l, i), -1);
                }
                Due.is("waiter(" + l + ", " + l + ") with L " + n, x.waiter(l, l), -1);
            }
            Due.is("waiter(L-1, 1)", x.waiter(n - 1, 1), 2);
        }
    }

    private static void negative() {
        for (int l = 0; l < 12; l++) {
            for (int length = 0; length <= 7; length++) {
                ProbeDeadlock x = queueOf(l, length);
                for (int i : Edge.outside(8)) {
                    if (i < 0) {
                        Due.is("waiter(" + l + ", " + i + ")", x.waiter(l, i), -1);
                    }
                }
            }
        }
    }

    private static void tooLarge() {
        for (int l = 0; l < 12; l++) {
            for (int length = 0; length <= 7; length++) {
                ProbeDeadlock x = queueOf(l, length);
                for (int i : Edge.outside(length)) {
                    if (i >= 0) {
                        Due.is("waiter(" + l + ", " + i + ") of " + length, x.waiter(l, i), -1);
                    }
                }
            }
        }
        // A queue that was longer before does not show its old end.
        ProbeDeadlock x = queueOf(4, 7);
        for (int length = 6; length >= 0; length--) {
            Due.is("drop the last", x.drop(ORDER[length], 4), 4);
            for (int i = length; i <= 8; i++) {
                Due.is("waiter(4, " + i + ") of " + length, x.waiter(4, i), -1);
            }
        }
    }

    private static void changesNothing() {
        Edge.changesNothing(Edge.WAITER);
    }
}
