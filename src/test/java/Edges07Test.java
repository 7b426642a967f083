/** Promise 7, report: each sentence that names an edge, by itself. */
public final class Edges07Test {
    public static void main(String[] args) {
        Due.sentence("Refused, with the answer `NONE`, if s is not in 0..S-1; then the list of victims stays as well.",
            Edges07Test::noSite);
        Due.sentence("Otherwise, first every entry in the queue of every lock l with l % S == s becomes reported",
            Edges07Test::everyEntry);
        Due.sentence("an entry already reported stays so", Edges07Test::alreadyReported);
        Due.sentence("the marks of other sites' entries stay.", Edges07Test::otherSites);
        Due.sentence("Then the Resolution is done: the list of victims is made empty and filled anew.",
            Edges07Test::filledAnew);
        Due.sentence("The Resolution considers all reported edges, whichever site's lock they come from.",
            Edges07Test::whicheverSite);
        Due.sentence("The marking is not repeated during the Resolution.", Edges07Test::markedOnce);
        Due.sentence("The answer is the number of victims, 0 or more.", Edges07Test::numberOfVictims);
        Due.sentence("A call that is not refused makes the list empty even if there is no reported cycle",
            Edges07Test::noCycle);
        Due.sentence("A call that is not refused makes the list empty even if site s keeps no lock",
            Edges07Test::siteWithoutLocks);
        Due.sentence("A call that is not refused makes the list empty even if its queues are empty.",
            Edges07Test::emptyQueues);
        Due.sentence("Apart from the marks, the list, and what the ending of the victims brings, nothing changes.",
            Edges07Test::nothingElse);
        Due.end();
    }

    private static void noSite() {
        for (int sites = 1; sites <= 4; sites++) {
            // The cycle would be found and the list emptied, were one of these not refused.
            ProbeDeadlock x = Edge.ring(sites, 1, 2, 3);
            Due.is("settle()", x.settle(), 1);
            Due.is("begin(0, 1)", x.begin(0, 1), true);
            Due.is("drop(2, 0)", x.drop(2, 0), 3);
            Due.granted(x, 0, 0);
            Due.queued(x, 0, 1);
            Due.queued(x, 2, 0);
            Due.victims(x, 0);
            String before = Due.all(x);
            for (int s : Edge.outside(sites)) {
                Due.is("report(" + s + ") with S " + sites, x.report(s), ProbeDeadlock.NONE);
            }
            Due.is("refused reports", Due.all(x), before);
            Due.victims(x, 0);
        }
    }

    /** All twelve locks with two in each queue, of transactions 1 to 7 in turn; 0 holds all. */
    private static ProbeDeadlock twelveQueues(int sites) {
        ProbeDeadlock x = new ProbeDeadlock(8, 12, sites);
        Due.begin(x, 9, 8, 7, 6, 5, 4, 3, 2);
        for (int l = 0; l < 12; l++) {
            Due.granted(x, 0, l);
            // The lower number first, so that no two stand before each other.
            Due.queued(x, 1 + l % 6, l);
            Due.queued(x, 7, l);
        }
        return x;
    }

    private static void everyEntry() {
        for (int sites = 1; sites <= 4; sites++) {
            for (int s = 0; s < sites; s++) {
                ProbeDeadlock x = twelveQueues(sites);
                Due.is("report(" + s + ")", x.report(s), 0);
                for (int l = s; l < 12; l += sites) {
                    Due.marks(x, l, 1 + l % 6, 7);
                }
            }
        }
        fullQueue();
    }

    private static void fullQueue() {
        ProbeDeadlock x = new ProbeDeadlock(8, 12, 4);
        Due.begin(x, 9, 8, 7, 6, 5, 4, 3, 2);
        Due.granted(x, 4, 11);
        for (int t : new int[] {7, 0, 6, 1, 5, 2, 3}) {
            Due.queued(x, t, 11);
        }
        Due.is("report(3)", x.report(3), 0);
        Due.marks(x, 11, 0, 1, 2, 3, 5, 6, 7);
    }

    private static void alreadyReported() {
        ProbeDeadlock x = twelveQueues(4);
        for (int round = 0; round < 3; round++) {
            Due.is("report(2)", x.report(2), 0);
            for (int l = 2; l < 12; l += 4) {
                Due.marks(x, l, 1 + l % 6, 7);
            }
        }
        Due.queued(x, 2, 6);
        Due.marks(x, 6, 1, 7);
        Due.is("report(2)", x.report(2), 0);
        Due.marks(x, 6, 1, 2, 7);
    }

    private static void otherSites() {
        for (int sites = 2; sites <= 4; sites++) {
            for (int first = 0; first < sites; first++) {
                for (int second = 0; second < sites; second++) {
                    ProbeDeadlock x = twelveQueues(sites);
                    Due.is("report(" + first + ")", x.report(first), 0);
                    Due.is("report(" + second + ")", x.report(second), 0);
                    for (int l = 0; l < 12; l++) {
                        boolean want = l % sites == first || l % sites == second;
                        Due.is("reported(7, " + l + ")", x.reported(7, l), want);
                        Due.is("reported(" + (1 + l % 6) + ", " + l + ")", x.reported(1 + l % 6, l), want);
                    }
                }
            }
        }
    }

    private static void filledAnew() {
        ProbeDeadlock x = Edge.allForAll(1, 5, 1, 4, 2, 3);
        Due.is("report(0)", x.report(0), 4);
        Due.victims(x, 1, 3, 4, 2);
        Due.is("commit(0)", x.commit(0), true);
        Due.begin(x, 1, 2);
        Due.granted(x, 0, 0);
        Due.granted(x, 1, 1);
        Due.queued(x, 0, 1);
        Due.queued(x, 1, 0);
        Due.is("report(0)", x.report(0), 1);
        Due.victims(x, 0);
        Due.is("report(0)", x.report(0), 0);
        Due.victims(x);
    }

    private static void whicheverSite() {
        // A ring over all four sites: the last to report closes it, whichever it is.
        int[][] orders = {{0, 1, 2, 3}, {3, 2, 1, 0}, {1, 3, 0, 2}, {2, 0, 3, 1}};
        for (int[] order : orders) {
            for (int n = 4; n <= 8; n++) {
                int[] priorities = new int[n];
                for (int t = 0; t < n; t++) {
                    priorities[t] = 60 - t;
                }
                ProbeDeadlock x = Edge.ring(4, priorities);
                for (int i = 0; i < 3; i++) {
                    Due.is("report(" + order[i] + ")", x.report(order[i]), 0);
                    Due.victims(x);
                }
                Due.is("report(" + order[3] + ")", x.report(order[3]), 1);
                Due.victims(x, n - 1);
            }
        }
        // A victim of which no lock or entry belongs to the site that reports last.
        ProbeDeadlock y = new ProbeDeadlock(3, 3, 3);
        Due.begin(y, 1, 2, 3);
        for (int t = 0; t < 3; t++) {
            Due.granted(y, t, t);
        }
        Due.queued(y, 0, 1);
        Due.queued(y, 1, 2);
        Due.queued(y, 2, 0);
        Due.is("report(1)", y.report(1), 0);
        Due.is("report(0)", y.report(0), 0);
        Due.is("report(2)", y.report(2), 1);
        Due.victims(y, 0);
    }

    private static void markedOnce() {
        // Lock 1 passes to 1 when 0 ends; the entry of 2 there, of a site that has not reported since, stays unmarked.
        ProbeDeadlock x = new ProbeDeadlock(4, 4, 2);
        Due.begin(x, 1, 2, 3, 4);
        Due.granted(x, 0, 0, 3);
        Due.granted(x, 1, 1);
        Due.queued(x, 0, 1);
        Due.is("report(1)", x.report(1), 0);
        Due.queued(x, 1, 0);
        Due.queued(x, 2, 1, 3);
        Due.queued(x, 3, 3);
        Due.is("report(0)", x.report(0), 1);
        Due.victims(x, 0);
        Due.marks(x, 1);
        Due.marks(x, 3);
        Due.queue(x, 1, 2);
        Due.queue(x, 3, 3);
        Due.holders(x, 1, 1, -1, 2);
    }

    private static void numberOfVictims() {
        for (int n = 2; n <= 8; n++) {
            int[] priorities = new int[n];
            ProbeDeadlock x = Edge.allForAll(1, priorities);
            Due.is("report(0) of " + n, x.report(0), n - 1);
            Due.is("victims()", x.victims(), n - 1);
            Due.is("report(0) again", x.report(0), 0);
            Due.is("victims()", x.victims(), 0);
        }
        for (int s = 0; s < 4; s++) {
            Due.is("report(" + s + ") at the start", new ProbeDeadlock(2, 1, 4).report(s), 0);
        }
    }

    private static void noCycle() {
        for (int s = 0; s < 3; s++) {
            ProbeDeadlock x = Edge.rich();
            Due.victims(x, 2);
            Due.is("report(" + s + ")", x.report(s), 0);
            Due.victims(x);
        }
    }

    private static void siteWithoutLocks() {
        for (int locks = 2; locks <= 3; locks++) {
            for (int s = locks; s < 4; s++) {
                ProbeDeadlock x = new ProbeDeadlock(3, locks, 4);
                Due.begin(x, 1, 2, 3);
                Due.granted(x, 0, 0);
                Due.granted(x, 1, 1);
                Due.queued(x, 0, 1);
                Due.queued(x, 1, 0);
                Due.is("report(" + s + ") marks nothing", x.report(s), 0);
                Due.is("settle()", x.settle(), 1);
                Due.victims(x, 0);
                Due.queued(x, 2, 0);
                Due.is("report(" + s + ") by a site without locks", x.report(s), 0);
                Due.victims(x);
                Due.marks(x, 0);
            }
        }
        for (int s = 0; s < 4; s++) {
            Due.is("report(" + s + ") with one lock", new ProbeDeadlock(2, 1, 4).report(s), 0);
        }
    }

    private static void emptyQueues() {
        for (int s = 0; s < 2; s++) {
            ProbeDeadlock x = Edge.ring(2, 1, 2);
            Due.is("settle()", x.settle(), 1);
            Due.victims(x, 0);
            Due.queue(x, 0);
            Due.queue(x, 1);
            Due.is("report(" + s + ") with empty queues", x.report(s), 0);
            Due.victims(x);
        }
        // The site's queues are empty, those of the other site are not.
        ProbeDeadlock y = Edge.ring(2, 1, 2);
        Due.is("settle()", y.settle(), 1);
        Due.is("begin(0, 1)", y.begin(0, 1), true);
        Due.queued(y, 0, 1);
        Due.is("report(0)", y.report(0), 0);
        Due.victims(y);
        Due.marks(y, 1);
    }

    private static void nothingElse() {
        for (int s = 0; s < 3; s++) {
            ProbeDeadlock x = Edge.rich();
            String transactions = Edge.transactionsBut(x, -1);
            Due.is("report(" + s + ")", x.report(s), 0);
            Due.is("transactions", Edge.transactionsBut(x, -1), transactions);
            Due.holders(x, 0, 1, 1, 0, -1, -1, 1);
            Due.queue(x, 0, 1, 4);
            Due.queue(x, 3, 4);
            for (int l : new int[] {1, 2, 4, 5, 6}) {
                Due.queue(x, l);
            }
        }
        // A bystander in the queue of a victim's lock keeps waiting; one with locks of its own keeps them.
        ProbeDeadlock y = new ProbeDeadlock(4, 4, 1);
        Due.begin(y, 1, 2, 3, 0);
        Due.granted(y, 0, 0);
        Due.granted(y, 1, 1);
        Due.granted(y, 3, 3);
        Due.queued(y, 0, 1);
        Due.queued(y, 1, 0);
        Due.queued(y, 2, 0, 3);
        Due.is("report(0)", y.report(0), 1);
        Due.victims(y, 0);
        Due.states(y, 3, 1, 2, 1);
        Due.holders(y, 1, 1, -1, 3);
        Due.queue(y, 0, 2);
        Due.queue(y, 3, 2);
        Due.is("priority(3)", y.priority(3), 0);
    }
}
