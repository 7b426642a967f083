/** Promise 7: report, with the Resolution. */
public final class Promise07Test {
    public static void main(String[] args) {
        marksOwnLocksAlone();
        refusals();
        emptiesTheList();
        considersAllSites();
        lowestByNumberWhenPrioritiesAreEqual();
        lowestOfAllCyclesFirst();
        looksAnewAfterEachVictim();
        endingMarksNothing();
        unreportedEdgesCloseNothing();
        vanishedEdgesCloseNothing();
        queueEdgesCloseCycles();
        cyclesOutliveAPassedLock();
        Due.end();
    }

    private static void marksOwnLocksAlone() {
        ProbeDeadlock x = new ProbeDeadlock(3, 12, 4);
        Due.begin(x, 1, 2, 3);
        for (int l = 0; l < 12; l++) {
            Due.granted(x, 0, l);
            Due.queued(x, 1, l);
            Due.queued(x, 2, l);
        }
        int[] order = {2, 0, 2, 3, 1};
        boolean[] done = new boolean[4];
        for (int s : order) {
            Due.is("report(" + s + ")", x.report(s), 0);
            done[s] = true;
            for (int l = 0; l < 12; l++) {
                Due.is("reported(1, " + l + ")", x.reported(1, l), done[l % 4]);
                Due.is("reported(2, " + l + ")", x.reported(2, l), done[l % 4]);
                Due.is("reported(0, " + l + ")", x.reported(0, l), false);
                Due.queue(x, l, 1, 2);
            }
        }
        Due.states(x, 1, 2, 2);
    }

    /** 0 and 1 wait for each other, by lock 1 of site 1 and lock 0 of site 0; 0 is the lower. */
    private static ProbeDeadlock twoInACycle() {
        ProbeDeadlock x = new ProbeDeadlock(4, 4, 2);
        Due.begin(x, 10, 20, 30, 40);
        Due.granted(x, 0, 0);
        Due.granted(x, 1, 1);
        Due.queued(x, 0, 1);
        Due.queued(x, 1, 0);
        return x;
    }

    private static void refusals() {
        ProbeDeadlock x = twoInACycle();
        Due.is("settle()", x.settle(), 1);
        Due.queued(x, 2, 0);
        String before = Due.all(x);
        Due.is("report(2)", x.report(2), -1);
        for (int n : Due.FAR_OUT) {
            Due.is("report(" + n + ")", x.report(n), -1);
        }
        Due.is("refused reports", Due.all(x), before);
        Due.victims(x, 0);
    }

    private static void emptiesTheList() {
        ProbeDeadlock x = twoInACycle();
        Due.is("settle()", x.settle(), 1);
        Due.victims(x, 0);
        Due.is("report without a cycle", x.report(1), 0);
        Due.victims(x);
        Due.states(x, 3, 1, 1, 1);

        // Sites 2 and 3 keep no lock when there are two locks.
        ProbeDeadlock y = new ProbeDeadlock(2, 2, 4);
        Due.begin(y, 10, 20);
        Due.granted(y, 0, 0);
        Due.granted(y, 1, 1);
        Due.queued(y, 0, 1);
        Due.queued(y, 1, 0);
        Due.is("report(3)", y.report(3), 0);
        Due.is("settle()", y.settle(), 1);
        Due.victims(y, 0);
        Due.is("report by a site without locks", y.report(3), 0);
        Due.victims(y);
    }

    private static void considersAllSites() {
        ProbeDeadlock x = twoInACycle();
        Due.is("report(1)", x.report(1), 0);
        Due.states(x, 2, 2, 1, 1);
        Due.is("report(0)", x.report(0), 1);
        Due.victims(x, 0);
        Due.states(x, 3, 1, 1, 1);
        Due.is("priority(0)", x.priority(0), -1);
        Due.is("holder(0)", x.holder(0), 1);
        Due.is("holder(1)", x.holder(1), 1);
        Due.queue(x, 0);
        Due.queue(x, 1);
    }

    private static void lowestByNumberWhenPrioritiesAreEqual() {
        ProbeDeadlock x = new ProbeDeadlock(3, 3, 1);
        Due.begin(x, 60, 50, 50);
        Due.granted(x, 0, 0);
        Due.granted(x, 1, 1);
        Due.granted(x, 2, 2);
        Due.queued(x, 0, 2);
        Due.queued(x, 2, 1);
        Due.queued(x, 1, 0);
        Due.is("report(0)", x.report(0), 1);
        Due.victims(x, 1);
        Due.states(x, 2, 3, 1);
    }

    private static void lowestOfAllCyclesFirst() {
        ProbeDeadlock x = new ProbeDeadlock(8, 8, 1);
        // 7 is the lowest of all but only waits for a cycle; the cycle 5-6 has the lowest member, then 0-1, then 2-3-4.
        Due.begin(x, 40, 30, 90, 70, 80, 99, 20, 0);
        for (int t = 0; t < 8; t++) {
            Due.granted(x, t, t);
        }
        Due.queued(x, 0, 1);
        Due.queued(x, 1, 0);
        Due.queued(x, 2, 3);
        Due.queued(x, 3, 4);
        Due.queued(x, 4, 2);
        Due.queued(x, 5, 6);
        Due.queued(x, 6, 5);
        Due.queued(x, 7, 0);
        Due.is("report(0)", x.report(0), 3);
        Due.victims(x, 6, 1, 3);
        Due.states(x, 1, 3, 1, 3, 2, 1, 3, 2);
        Due.queue(x, 0, 7);
        Due.is("reported(7, 0)", x.reported(7, 0), true);
    }

    private static void looksAnewAfterEachVictim() {
        // 0 is on both cycles 0-1 and 0-2: its end breaks both, so there is one victim.
        ProbeDeadlock x = new ProbeDeadlock(3, 3, 1);
        Due.begin(x, 10, 20, 30);
        Due.granted(x, 0, 0);
        Due.granted(x, 1, 1);
        Due.granted(x, 2, 2);
        Due.queued(x, 0, 1, 2);
        Due.queued(x, 1, 0);
        Due.queued(x, 2, 0);
        Due.is("report(0)", x.report(0), 1);
        Due.victims(x, 0);

        // With the shared one the highest, both others must go.
        ProbeDeadlock y = new ProbeDeadlock(3, 4, 1);
        Due.begin(y, 90, 20, 10);
        Due.granted(y, 0, 0, 3);
        Due.granted(y, 1, 1);
        Due.granted(y, 2, 2);
        Due.queued(y, 0, 1, 2);
        Due.queued(y, 1, 0);
        Due.queued(y, 2, 3);
        Due.is("report(0)", y.report(0), 2);
        Due.victims(y, 2, 1);
        Due.states(y, 1, 3, 3);
        for (int l = 0; l < 4; l++) {
            Due.is("holder(" + l + ")", y.holder(l), 0);
        }
    }

    private static void endingMarksNothing() {
        ProbeDeadlock x = twoInACycle();
        Due.is("report(1)", x.report(1), 0);
        Due.queued(x, 2, 1);
        Due.is("report(0)", x.report(0), 1);
        Due.victims(x, 0);
        Due.is("holder(1)", x.holder(1), 1);
        Due.queue(x, 1, 2);
        Due.is("reported(2, 1)", x.reported(2, 1), false);
    }

    private static void unreportedEdgesCloseNothing() {
        ProbeDeadlock x = twoInACycle();
        Due.is("report(0)", x.report(0), 0);
        Due.is("report(0)", x.report(0), 0);
        Due.states(x, 2, 2, 1, 1);
        Due.is("report(1)", x.report(1), 1);
        Due.victims(x, 0);
    }

    private static void vanishedEdgesCloseNothing() {
        ProbeDeadlock x = twoInACycle();
        Due.is("report(0)", x.report(0), 0);
        Due.is("drop(1, 0)", x.drop(1, 0), 4);
        Due.is("report(1)", x.report(1), 0);
        // The new entry is not reported until its site reports again.
        Due.queued(x, 1, 0);
        Due.is("report(1)", x.report(1), 0);
        Due.is("report(0)", x.report(0), 1);
        Due.victims(x, 0);
    }

    private static void queueEdgesCloseCycles() {
        // Neither 1 nor 2 holds what the other wants: each stands before the other in one of two queues.
        ProbeDeadlock x = new ProbeDeadlock(3, 2, 2);
        Due.begin(x, 5, 20, 10);
        Due.granted(x, 0, 0, 1);
        Due.queued(x, 1, 0);
        Due.queued(x, 2, 0);
        Due.queued(x, 2, 1);
        Due.queued(x, 1, 1);
        Due.is("report(0)", x.report(0), 0);
        Due.is("report(1)", x.report(1), 1);
        Due.victims(x, 2);
        Due.states(x, 1, 2, 3);
        Due.queue(x, 0, 1);
        Due.queue(x, 1, 1);

        // The mark of the one behind counts, not that of the one before.
        ProbeDeadlock y = new ProbeDeadlock(3, 2, 1);
        Due.begin(y, 5, 20, 10);
        Due.granted(y, 0, 0, 1);
        Due.queued(y, 1, 0);
        Due.queued(y, 2, 1);
        Due.is("report(0)", y.report(0), 0);
        Due.queued(y, 2, 0);
        Due.queued(y, 1, 1);
        Due.is("waitsFor(2, 1)", y.waitsFor(2, 1), 1);
        Due.is("waitsFor(1, 2)", y.waitsFor(1, 2), 1);
        Due.is("report(0)", y.report(0), 1);
        Due.victims(y, 2);
    }

    private static void cyclesOutliveAPassedLock() {
        // When 0 ends, lock 0 passes to 1: 3 stood behind 1 there, and now waits for 1 as the holder.
        ProbeDeadlock x = new ProbeDeadlock(4, 4, 1);
        Due.begin(x, 1, 50, 60, 40);
        Due.granted(x, 0, 0);
        Due.granted(x, 2, 2);
        Due.granted(x, 3, 3);
        Due.queued(x, 1, 0);
        Due.queued(x, 3, 0);
        Due.queued(x, 2, 0);
        Due.queued(x, 0, 2);
        Due.queued(x, 1, 3);
        Due.is("report(0)", x.report(0), 2);
        Due.victims(x, 0, 3);
        Due.states(x, 3, 1, 2, 3);
        Due.is("holder(0)", x.holder(0), 1);
        Due.is("holder(2)", x.holder(2), 2);
        Due.is("holder(3)", x.holder(3), 1);
        Due.queue(x, 0, 2);
    }
}
