import java.util.Random;

/** All promises: long runs of calls drawn from fixed seeds, each answer and all that can be seen held against Model. */
public final class ModelTest {
    private static final int RUNS = 600;
    private static final int CALLS = 250;

    private static int mostVictims = 0;

    public static void main(String[] args) {
        for (int seed = 0; seed < RUNS && !Due.anyWrong(); seed++) {
            run(seed);
        }
        // If the runs never reached a rich Resolution, they would say little about it.
        Due.is("greatest list of victims met is 5 or more", mostVictims >= 5, true);
        Due.end();
    }

    private static void run(int seed) {
        Random random = new Random(seed);
        int transactions = 1 + random.nextInt(9);
        int locks = random.nextInt(14);
        int sites = random.nextInt(6);
        ProbeDeadlock x = new ProbeDeadlock(transactions, locks, sites);
        Model model = new Model(transactions, locks, sites);
        // Few reports let cycles pile up, many keep them apart: each run has its own share.
        int reportShare = 1 + random.nextInt(12);
        int priorityRange = random.nextBoolean() ? 3 : 100;
        for (int n = 0; n < CALLS && !Due.anyWrong(); n++) {
            step(seed + "." + n + " ", random, x, model, reportShare, priorityRange);
        }
    }

    private static void step(String at, Random random, ProbeDeadlock x, Model m, int reportShare, int priorityRange) {
        int t = number(random, m.transactions);
        int l = number(random, m.locks);
        int s = number(random, m.sites);
        int p = number(random, priorityRange);
        int kind = random.nextInt(100);
        if (kind < reportShare) {
            if (random.nextInt(4) == 0) {
                Due.is(at + "settle()", x.settle(), m.settle());
            } else {
                Due.is(at + "report(" + s + ")", x.report(s), m.report(s));
            }
            mostVictims = Math.max(mostVictims, x.victims());
        } else if (kind < 30) {
            Due.is(at + "begin(" + t + ", " + p + ")", x.begin(t, p), m.begin(t, p));
        } else if (kind < 88) {
            Due.is(at + "request(" + t + ", " + l + ")", x.request(t, l), m.request(t, l));
        } else if (kind < 96) {
            Due.is(at + "drop(" + t + ", " + l + ")", x.drop(t, l), m.drop(t, l));
        } else if (kind < 98) {
            Due.is(at + "commit(" + t + ")", x.commit(t), m.commit(t));
        } else {
            Due.is(at + "abort(" + t + ")", x.abort(t), m.abort(t));
        }
        compare(at, x, m);
    }

    /** Mostly in 0..count-1, now and then outside. */
    private static int number(Random random, int count) {
        if (random.nextInt(40) != 0) {
            return random.nextInt(count);
        }
        return random.nextBoolean() ? count : Due.FAR_OUT[random.nextInt(Due.FAR_OUT.length)];
    }

    private static void compare(String at, ProbeDeadlock x, Model m) {
        for (int t = -1; t <= m.transactions; t++) {
            Due.is(at + "state(" + t + ")", x.state(t), m.state(t));
            Due.is(at + "priority(" + t + ")", x.priority(t), m.priority(t));
            for (int u = -1; u <= m.transactions; u++) {
                Due.is(at + "waitsFor(" + t + ", " + u + ")", x.waitsFor(t, u), m.waitsFor(t, u));
                Due.is(at + "carries(" + u + ", " + t + ")", x.carries(u, t), m.carries(u, t));
            }
        }
        for (int l = -1; l <= m.locks; l++) {
            Due.is(at + "holder(" + l + ")", x.holder(l), m.holder(l));
            for (int t = -1; t <= m.transactions; t++) {
                Due.is(at + "waiter(" + l + ", " + t + ")", x.waiter(l, t), m.waiter(l, t));
                Due.is(at + "reported(" + t + ", " + l + ")", x.reported(t, l), m.reported(t, l));
            }
        }
        Due.is(at + "victims()", x.victims(), m.victims());
        for (int k = -1; k <= m.transactions; k++) {
            Due.is(at + "victim(" + k + ")", x.victim(k), m.victim(k));
        }
    }
}
