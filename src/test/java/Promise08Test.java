/** Promise 8: settle. */
public final class Promise08Test {
    public static void main(String[] args) {
        marksEverything();
        emptiesTheList();
        oneResolutionForAllSites();
        allButOne();
        Due.end();
    }

    private static void marksEverything() {
        for (int sites = 1; sites <= 4; sites++) {
            ProbeDeadlock x = new ProbeDeadlock(3, 12, sites);
            Due.is("settle() at the start", x.settle(), 0);
            Due.begin(x, 1, 2, 3);
            for (int l = 0; l < 12; l++) {
                Due.granted(x, 0, l);
                Due.queued(x, 1, l);
                Due.queued(x, 2, l);
            }
            Due.is("settle()", x.settle(), 0);
            for (int l = 0; l < 12; l++) {
                Due.is("reported(1, " + l + ")", x.reported(1, l), true);
                Due.is("reported(2, " + l + ")", x.reported(2, l), true);
                Due.is("holder(" + l + ")", x.holder(l), 0);
                Due.queue(x, l, 1, 2);
            }
            Due.states(x, 1, 2, 2);
            String before = Due.all(x);
            Due.is("settle() again", x.settle(), 0);
            Due.is("settle() again", Due.all(x), before);
        }
    }

    private static void emptiesTheList() {
        ProbeDeadlock x = new ProbeDeadlock(3, 2, 2);
        Due.begin(x, 10, 10, 10);
        Due.granted(x, 1, 0);
        Due.granted(x, 2, 1);
        Due.queued(x, 2, 0);
        Due.queued(x, 1, 1);
        Due.is("settle()", x.settle(), 1);
        Due.victims(x, 1);
        Due.is("settle()", x.settle(), 0);
        Due.victims(x);
        Due.states(x, 1, 3, 1);
    }

    private static void oneResolutionForAllSites() {
        // Site after site, 2 would go for the cycle 2-3 of site 0 before 0 goes for 0-1-2 of both sites.
        ProbeDeadlock x = new ProbeDeadlock(4, 6, 2);
        Due.begin(x, 10, 90, 50, 60);
        Due.granted(x, 0, 1);
        Due.granted(x, 1, 3);
        Due.granted(x, 2, 0);
        Due.granted(x, 3, 2);
        Due.queued(x, 2, 2);
        Due.queued(x, 3, 0);
        Due.queued(x, 0, 3);
        Due.queued(x, 1, 0);
        Due.queued(x, 2, 1);
        Due.is("settle()", x.settle(), 2);
        Due.victims(x, 0, 2);
        Due.states(x, 3, 2, 3, 1);
        Due.is("holder(0)", x.holder(0), 3);
        Due.is("holder(1)", x.holder(1), -1);
        Due.is("holder(2)", x.holder(2), 3);
        Due.queue(x, 0, 1);
    }

    private static void allButOne() {
        ProbeDeadlock x = new ProbeDeadlock(8, 8, 4);
        int[] priorities = {50, 20, 70, 20, 99, 0, 50, 30};
        Due.begin(x, priorities);
        for (int t = 0; t < 8; t++) {
            Due.granted(x, t, t);
        }
        for (int t = 0; t < 8; t++) {
            for (int l = 0; l < 8; l++) {
                if (l != t) {
                    Due.queued(x, t, l);
                }
            }
        }
        Due.is("settle()", x.settle(), 7);
        Due.victims(x, 5, 1, 3, 7, 0, 6, 2);
        Due.states(x, 3, 3, 3, 3, 1, 3, 3, 3);
        for (int l = 0; l < 8; l++) {
            Due.is("holder(" + l + ")", x.holder(l), 4);
            Due.queue(x, l);
        }
    }
}
