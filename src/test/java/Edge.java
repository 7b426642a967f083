import java.util.TreeSet;

/** What the tests of single sentences (Edges...Test) share: numbers out of range, and objects in a telling state. */
final class Edge {
    /** The four ways by which transaction 0 can lose lock 5 of {@link #holderOfFive}. */
    static final String[] WAYS = {"drop", "commit", "abort", "victim"};

    private Edge() {
    }

    /** Many ints that are not in 0..count-1: near ones, the outermost, and those that a mask or cast would let in. */
    static int[] outside(int count) {
        TreeSet<Integer> numbers = new TreeSet<>();
        for (int n = -130; n <= 260; n++) {
            numbers.add(n);
        }
        for (int bit = 8; bit < Integer.SIZE; bit++) {
            for (int d = -13; d <= 13; d++) {
                numbers.add((1 << bit) + d);
                numbers.add(-(1 << bit) + d);
            }
        }
        numbers.removeIf(n -> n >= 0 && n < count);
        return numbers.stream().mapToInt(Integer::intValue).toArray();
    }

    /**
     * 6 transactions, 7 locks, 3 sites; 0 RUNNING, 1 WAITING (reported), 2 VICTIM and in the list, 3 FREE after a
     * commit, 4 WAITING (not reported), 5 FREE since the start; locks 4 and 5 have no holder.
     */
    static ProbeDeadlock rich() {
        ProbeDeadlock x = new ProbeDeadlock(6, 7, 3);
        Due.begin(x, 50, 40, 10, 60, 40);
        Due.is("commit(3)", x.commit(3), true);
        Due.granted(x, 0, 0, 3);
        Due.granted(x, 1, 1, 6);
        Due.granted(x, 2, 2);
        Due.queued(x, 2, 1);
        Due.queued(x, 1, 2, 0);
        Due.is("settle()", x.settle(), 1);
        Due.queued(x, 4, 0, 3);
        return x;
    }

    /** Transaction t holds lock t and waits for lock t + 1, the last for lock 0: nothing is reported yet. */
    static ProbeDeadlock ring(int sites, int... priorities) {
        int n = priorities.length;
        ProbeDeadlock x = new ProbeDeadlock(n, n, sites);
        Due.begin(x, priorities);
        for (int t = 0; t < n; t++) {
            Due.granted(x, t, t);
        }
        for (int t = 0; t < n; t++) {
            Due.queued(x, t, (t + 1) % n);
        }
        return x;
    }

    /** Transaction t holds lock t, and all others wait for it there: nothing is reported yet. */
    static ProbeDeadlock allForAll(int sites, int... priorities) {
        int n = priorities.length;
        ProbeDeadlock x = new ProbeDeadlock(n, n, sites);
        Due.begin(x, priorities);
        for (int t = 0; t < n; t++) {
            Due.granted(x, t, t);
        }
        for (int l = 0; l < n; l++) {
            for (int t = 0; t < n; t++) {
                if (t != l) {
                    Due.queued(x, t, l);
                }
            }
        }
        return x;
    }

    /** 8 transactions, all begun, 12 locks, 4 sites; 0, the lowest, holds 5 and 10; 7, the highest, holds 11. */
    static ProbeDeadlock holderOfFive() {
        ProbeDeadlock x = new ProbeDeadlock(8, 12, 4);
        Due.begin(x, 1, 51, 52, 53, 54, 55, 56, 57);
        Due.granted(x, 0, 5, 10);
        Due.granted(x, 7, 11);
        return x;
    }

    /** 0 loses lock 5 in this way; site 1, which keeps lock 5, does not report meanwhile. */
    static void loseFive(ProbeDeadlock x, String way) {
        switch (way) {
            case "drop" -> Due.is("drop(0, 5)", x.drop(0, 5), ProbeDeadlock.RELEASED);
            case "commit" -> Due.is("commit(0)", x.commit(0), true);
            case "abort" -> Due.is("abort(0)", x.abort(0), true);
            default -> becomeVictim(x);
        }
    }

    private static void becomeVictim(ProbeDeadlock x) {
        Due.queued(x, 0, 11);
        Due.queued(x, 7, 10);
        Due.is("report(2)", x.report(2), 0);
        Due.is("report(3)", x.report(3), 1);
        Due.victims(x, 0);
    }

    /** The calls that only look, by their numbers. */
    static final int STATE = 0;
    static final int PRIORITY = 1;
    static final int HOLDER = 2;
    static final int WAITER = 3;
    static final int REPORTED = 4;
    static final int WAITS_FOR = 5;
    static final int CARRIES = 6;
    static final int VICTIMS = 7;
    static final int VICTIM = 8;
    static final int LOOKS = 9;

    private static int look(ProbeDeadlock x, int kind, int a, int b) {
        return switch (kind) {
            case STATE -> x.state(a);
            case PRIORITY -> x.priority(a);
            case HOLDER -> x.holder(a);
            case WAITER -> x.waiter(a, b);
            case REPORTED -> x.reported(a, b) ? 1 : 0;
            case WAITS_FOR -> x.waitsFor(a, b);
            case CARRIES -> x.carries(a, b) ? 1 : 0;
            case VICTIMS -> x.victims();
            default -> x.victim(a);
        };
    }

    /**
     * After looks of this kind with all numbers near, every first look at anything is as it is without them.
     * Each is taken on an object of its own: a look that changes something could hide that from the next one.
     */
    static void changesNothing(int kind) {
        for (int other = 0; other < LOOKS; other++) {
            for (int a = -1; a <= 7; a++) {
                for (int b = -1; b <= 7; b++) {
                    ProbeDeadlock looked = rich();
                    lookAround(looked, kind);
                    int due = look(rich(), other, a, b);
                    Due.is("look " + other + " at " + a + ", " + b + " after looks " + kind,
                        look(looked, other, a, b), due);
                }
            }
        }
    }

    private static void lookAround(ProbeDeadlock x, int kind) {
        int[] far = {Integer.MIN_VALUE, -100, 100, Integer.MAX_VALUE};
        for (int a = -14; a <= 14; a++) {
            for (int b = -14; b <= 14; b++) {
                look(x, kind, a, b);
            }
        }
        for (int a : far) {
            for (int b : far) {
                look(x, kind, a, b);
            }
        }
    }

    /** All that can be seen of lock l. */
    static String lock(ProbeDeadlock x, int l) {
        StringBuilder s = new StringBuilder("lock " + l + " of " + x.holder(l) + ":");
        for (int i = 0; i < ProbeDeadlock.MAX_TRANSACTIONS; i++) {
            int t = x.waiter(l, i);
            s.append(' ').append(t).append(x.reported(t, l) ? "r" : "");
        }
        return s.toString();
    }

    /** All locks but this one; NONE leaves none out. */
    static String locksBut(ProbeDeadlock x, int l) {
        StringBuilder s = new StringBuilder();
        for (int other = 0; other < ProbeDeadlock.MAX_LOCKS; other++) {
            if (other != l) {
                s.append(lock(x, other)).append("; ");
            }
        }
        return s.toString();
    }

    /** State and priority of all transactions but this one; NONE leaves none out. */
    static String transactionsBut(ProbeDeadlock x, int t) {
        StringBuilder s = new StringBuilder();
        for (int other = 0; other < ProbeDeadlock.MAX_TRANSACTIONS; other++) {
            if (other != t) {
                s.append(other).append(':').append(x.state(other)).append('/').append(x.priority(other)).append(' ');
            }
        }
        return s.toString();
    }

    static String victimList(ProbeDeadlock x) {
        StringBuilder s = new StringBuilder("list of " + x.victims() + ":");
        for (int k = 0; k <= ProbeDeadlock.MAX_TRANSACTIONS; k++) {
            s.append(' ').append(x.victim(k));
        }
        return s.toString();
    }
}
