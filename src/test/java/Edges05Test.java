/** Promise 5, commit: each sentence that names an edge, by itself. */
public final class Edges05Test {
    public static void main(String[] args) {
        Due.sentence("`commit(t)` is refused (`false`) if t is not in 0..T-1", Edges05Test::noTransaction);
        Due.sentence("`commit(t)` is refused (`false`) if t is not `RUNNING`; so a `WAITING` transaction is refused.",
            Edges05Test::waiting);
        Due.sentence("`commit(t)` is refused (`false`) if t is not `RUNNING`; so a `FREE` transaction is refused.",
            Edges05Test::free);
        Due.sentence("`commit(t)` is refused (`false`) if t is not `RUNNING`; so a `VICTIM` transaction is refused.",
            Edges05Test::victim);
        Due.sentence("Otherwise t is ended (see Terms), its state becomes `FREE`, and the answer is `true`.",
            Edges05Test::becomesFree);
        Due.sentence("Each lock that t held is passed on, in ascending order of lock numbers.", Edges05Test::passedOn);
        Due.sentence("Locks that t did not hold stay as they are, and the list of victims is not changed.",
            Edges05Test::othersStay);
        Due.end();
    }

    private static void noTransaction() {
        for (int n = 2; n <= 8; n++) {
            ProbeDeadlock x = new ProbeDeadlock(n, 3, 2);
            for (int t = 0; t < n; t++) {
                Due.is("begin", x.begin(t, t), true);
            }
            Due.granted(x, 0, 0);
            String before = Due.all(x);
            for (int t : Edge.outside(n)) {
                Due.is("commit(" + t + ") with T " + n, x.commit(t), false);
            }
            Due.is("refused commits", Due.all(x), before);
            Due.is("commit(T-1)", x.commit(n - 1), true);
            Due.is("commit(0)", x.commit(0), true);
        }
    }

    private static void waiting() {
        // However many locks it holds and waits for, reported or not.
        for (int waits = 1; waits <= 6; waits++) {
            ProbeDeadlock x = new ProbeDeadlock(3, 12, 4);
            Due.begin(x, 5, 6, 7);
            Due.granted(x, 1, 11);
            for (int l = 0; l < waits; l++) {
                Due.granted(x, 0, l);
                Due.queued(x, 1, l);
            }
            String before = Due.all(x);
            Due.is("commit of a WAITING one", x.commit(1), false);
            Due.is("refused commit", Due.all(x), before);
            Due.is("settle()", x.settle(), 0);
            before = Due.all(x);
            Due.is("commit of a WAITING one, reported", x.commit(1), false);
            Due.is("refused commit", Due.all(x), before);
            Due.is("commit(0)", x.commit(0), true);
            Due.is("commit of one that waits no more", x.commit(1), true);
        }
    }

    private static void free() {
        ProbeDeadlock x = new ProbeDeadlock(3, 2, 1);
        String before = Due.all(x);
        for (int t = 0; t < 3; t++) {
            Due.is("commit of one not begun", x.commit(t), false);
        }
        Due.is("refused commits", Due.all(x), before);
        Due.begin(x, 5, 6);
        Due.is("commit(0)", x.commit(0), true);
        Due.is("abort(1)", x.abort(1), true);
        Due.is("commit after a commit", x.commit(0), false);
        Due.is("commit after an abort", x.commit(1), false);
        Due.is("refused commits", Due.all(x), before);
    }

    private static void victim() {
        ProbeDeadlock x = Edge.allForAll(1, 1, 2, 3, 4, 5, 6, 7, 8);
        Due.is("settle()", x.settle(), 7);
        String before = Due.all(x);
        for (int t = 0; t < 7; t++) {
            Due.is("commit of a VICTIM", x.commit(t), false);
            Due.is("state(" + t + ")", x.state(t), ProbeDeadlock.VICTIM);
        }
        Due.is("refused commits", Due.all(x), before);
    }

    private static void becomesFree() {
        for (int t = 0; t < 8; t++) {
            ProbeDeadlock x = new ProbeDeadlock(8, 12, 4);
            Due.is("begin", x.begin(t, 0), true);
            Due.is("commit without locks", x.commit(t), true);
            Due.is("state(" + t + ")", x.state(t), ProbeDeadlock.FREE);
            Due.is("priority(" + t + ")", x.priority(t), -1);
            Due.is("begin", x.begin(t, 99), true);
            for (int l = 0; l < 12; l++) {
                Due.granted(x, t, l);
            }
            Due.is("commit with all locks", x.commit(t), true);
            Due.is("state(" + t + ")", x.state(t), ProbeDeadlock.FREE);
            Due.holders(x, -1, -1, -1, -1, -1, -1, -1, -1, -1, -1, -1, -1);
        }
    }

    private static void passedOn() {
        ProbeDeadlock x = new ProbeDeadlock(8, 12, 4);
        Due.begin(x, 5, 5, 5, 5, 5, 5, 5, 5);
        for (int l = 11; l >= 0; l--) {
            Due.granted(x, 3, l);
        }
        // Locks 0 to 3 have no waiter, 4 to 7 have one, 8 to 11 have two; 7 waits for two locks and gets both.
        Due.queued(x, 0, 4, 8);
        Due.queued(x, 1, 5, 9);
        Due.queued(x, 7, 6, 7);
        Due.queued(x, 4, 10, 11);
        Due.queued(x, 5, 8, 9, 10, 11);
        Due.is("report(0)", x.report(0), 0);
        Due.is("commit(3)", x.commit(3), true);
        Due.holders(x, -1, -1, -1, -1, 0, 1, 7, 7, 0, 1, 4, 4);
        for (int l = 0; l < 12; l++) {
            if (l < 8) {
                Due.queue(x, l);
            } else {
                Due.queue(x, l, 5);
            }
        }
        Due.states(x, 1, 1, 1, 0, 1, 2, 1, 1);
        Due.marks(x, 8, 5);
        Due.marks(x, 9);
    }

    private static void othersStay() {
        ProbeDeadlock x = Edge.rich();
        Due.is("begin(5, 5)", x.begin(5, 5), true);
        Due.granted(x, 5, 4);
        String locks = Edge.locksBut(x, 4);
        String others = Edge.transactionsBut(x, 5);
        Due.is("commit(5)", x.commit(5), true);
        Due.is("locks of others", Edge.locksBut(x, 4), locks);
        Due.is("others", Edge.transactionsBut(x, 5), others);
        Due.victims(x, 2);
        // Also if the one that commits stands in the list.
        Due.is("begin(2, 5)", x.begin(2, 5), true);
        Due.is("commit(2)", x.commit(2), true);
        Due.is("locks of others", Edge.locksBut(x, 4), locks);
        Due.victims(x, 2);
        Due.is("state(2)", x.state(2), ProbeDeadlock.FREE);
        Due.is("commit(0)", x.commit(0), true);
        Due.victims(x, 2);
    }
}
