/**
 * A distributed lock manager that finds deadlocks among transactions and ends victims to break them.
 *
 * A set of transactions is kept as the bits of an int: bit t stands for transaction t.
 */
public final class ProbeDeadlock {
    public static final int FREE = 0;
    public static final int RUNNING = 1;
    public static final int WAITING = 2;
    public static final int VICTIM = 3;

    public static final int REFUSED = 0;
    public static final int GRANTED = 1;
    public static final int QUEUED = 2;
    public static final int RELEASED = 3;
    public static final int WITHDRAWN = 4;

    public static final int NONE = -1;

    public static final int MAX_TRANSACTIONS = 8;
    public static final int MAX_LOCKS = 12;
    public static final int MAX_SITES = 4;
    public static final int MAX_PRIORITY = 99;

    private static final int MIN_TRANSACTIONS = 2;
    private static final int MIN_LOCKS = 1;
    private static final int MIN_SITES = 1;

    /** One cell for each pair of a lock l and a transaction t, at l * MAX_TRANSACTIONS + t. */
    private static final int CELLS = MAX_LOCKS * MAX_TRANSACTIONS;

    // 0 stands for no place, so that new arrays are empty queues.
    private static final int NO_PLACE = 0;
    private static final int FIRST_PLACE = 1;

    private static final int ALL = (1 << MAX_TRANSACTIONS) - 1;

    private final int transactionCount;
    private final int lockCount;
    private final int siteCount;

    private final int[] stateOf = new int[MAX_TRANSACTIONS];
    private final int[] priorityOf = new int[MAX_TRANSACTIONS];
    private final int[] holderOf = new int[MAX_LOCKS];

    // A queue is kept as each transaction's place in it, so that nobody is in it twice and it can't overflow.
    private final int[] placeOf = new int[CELLS];
    private final boolean[] marked = new boolean[CELLS];

    private final int[] victimList = new int[MAX_TRANSACTIONS];
    private int victimCount;

    public ProbeDeadlock(int transactions, int locks, int sites) {
        transactionCount = clamp(transactions, MIN_TRANSACTIONS, MAX_TRANSACTIONS);
        lockCount = clamp(locks, MIN_LOCKS, MAX_LOCKS);
        siteCount = clamp(sites, MIN_SITES, MAX_SITES);
        for (int l = 0; l < MAX_LOCKS; l++) {
            holderOf[l] = NONE;
        }
    }

    public boolean begin(int t, int p) {
        if (!isTransaction(t) || p < 0 || p > MAX_PRIORITY || isLive(t)) {
            return false;
        }
        stateOf[t] = RUNNING;
        priorityOf[t] = p;
        return true;
    }

    public int request(int t, int l) {
        if (!isTransaction(t) || !isLock(l) || !isLive(t)) {
            return REFUSED;
        }
        if (holderOf[l] == t || isQueued(t, l)) {
            return REFUSED;
        }
        if (holderOf[l] == NONE) {
            holderOf[l] = t;
            return GRANTED;
        }
        enqueue(t, l);
        stateOf[t] = WAITING;
        return QUEUED;
    }

    public int drop(int t, int l) {
        if (!isTransaction(t) || !isLock(l)) {
            return REFUSED;
        }
        if (holderOf[l] == t) {
            passOn(l);
            return RELEASED;
        }
        if (isQueued(t, l)) {
            takeOut(t, l);
            runIfNotWaiting(t);
            return WITHDRAWN;
        }
        return REFUSED;
    }

    public boolean commit(int t) {
        if (!isTransaction(t) || stateOf[t] != RUNNING) {
            return false;
        }
        end(t, FREE);
        return true;
    }

    public boolean abort(int t) {
        if (!isTransaction(t) || !isLive(t)) {
            return false;
        }
        end(t, FREE);
        return true;
    }

    public int report(int s) {
        if (s < 0 || s >= siteCount) {
            return NONE;
        }
        for (int l = 0; l < lockCount; l++) {
            if (l % siteCount == s) {
                markQueue(l);
            }
        }
        resolve();
        return victimCount;
    }

    public int settle() {
        for (int l = 0; l < lockCount; l++) {
            markQueue(l);
        }
        resolve();
        return victimCount;
    }

    public int state(int t) {
        return isTransaction(t) ? stateOf[t] : NONE;
    }

    public int priority(int t) {
        return isTransaction(t) && isLive(t) ? priorityOf[t] : NONE;
    }

    public int holder(int l) {
        return isLock(l) ? holderOf[l] : NONE;
    }

    public int waiter(int l, int i) {
        if (!isLock(l) || i < 0 || i >= transactionCount) {
            return NONE;
        }
        return atPlace(l, FIRST_PLACE + i);
    }

    public boolean reported(int t, int l) {
        return isTransaction(t) && isLock(l) && marked[l * MAX_TRANSACTIONS + t];
    }

    public int waitsFor(int t, int u) {
        if (!isTransaction(t) || !isTransaction(u) || t == u) {
            return 0;
        }
        int reportedSet = reportedTargets(t);
        if (contains(reportedSet, u)) {
            return 2;
        }
        int anySet = allTargets(t);
        return contains(anySet, u) ? 1 : 0;
    }

    public boolean carries(int u, int t) {
        if (!isTransaction(u) || !isTransaction(t)) {
            return false;
        }
        // Who is not live has no edges, and t is not higher than itself: neither needs a look of its own.
        int allowed = higherThan(t);
        int carriers = reach(t, allowed);
        return contains(carriers, u);
    }

    public int victims() {
        return victimCount;
    }

    public int victim(int k) {
        return k >= 0 && k < victimCount ? victimList[k] : NONE;
    }

    private static int clamp(int value, int least, int greatest) {
        if (value < least) {
            return least;
        }
        return value > greatest ? greatest : value;
    }

    private static boolean contains(int set, int t) {
        return (set & (1 << t)) != 0;
    }

    private boolean isTransaction(int t) {
        return t >= 0 && t < transactionCount;
    }

    private boolean isLock(int l) {
        return l >= 0 && l < lockCount;
    }

    private boolean isLive(int t) {
        return stateOf[t] == RUNNING || stateOf[t] == WAITING;
    }

    private boolean isLower(int a, int b) {
        if (priorityOf[a] != priorityOf[b]) {
            return priorityOf[a] < priorityOf[b];
        }
        return a < b;
    }

    private boolean isQueued(int t, int l) {
        return placeOf[l * MAX_TRANSACTIONS + t] != NO_PLACE;
    }

    /** The transaction at this place in the queue of l, NONE if the queue is shorter. */
    private int atPlace(int l, int place) {
        for (int t = 0; t < transactionCount; t++) {
            if (placeOf[l * MAX_TRANSACTIONS + t] == place) {
                return t;
            }
        }
        return NONE;
    }

    private void enqueue(int t, int l) {
        int place = FIRST_PLACE;
        for (int other = 0; other < transactionCount; other++) {
            if (isQueued(other, l)) {
                place++;
            }
        }
        placeOf[l * MAX_TRANSACTIONS + t] = place;
    }

    private void takeOut(int t, int l) {
        int queue = l * MAX_TRANSACTIONS;
        int left = placeOf[queue + t];
        placeOf[queue + t] = NO_PLACE;
        marked[queue + t] = false;
        for (int other = 0; other < transactionCount; other++) {
            if (placeOf[queue + other] > left) {
                placeOf[queue + other]--;
            }
        }
    }

    private void runIfNotWaiting(int t) {
        for (int l = 0; l < lockCount; l++) {
            if (isQueued(t, l)) {
                return;
            }
        }
        stateOf[t] = RUNNING;
    }

    private void passOn(int l) {
        int next = atPlace(l, FIRST_PLACE);
        holderOf[l] = next;
        if (next != NONE) {
            takeOut(next, l);
            runIfNotWaiting(next);
        }
    }

    private void end(int t, int endState) {
        for (int l = 0; l < lockCount; l++) {
            if (isQueued(t, l)) {
                takeOut(t, l);
            }
        }
        for (int l = 0; l < lockCount; l++) {
            if (holderOf[l] == t) {
                passOn(l);
            }
        }
        stateOf[t] = endState;
    }

    private void markQueue(int l) {
        for (int t = 0; t < transactionCount; t++) {
            if (isQueued(t, l)) {
                marked[l * MAX_TRANSACTIONS + t] = true;
            }
        }
    }

    private void resolve() {
        victimCount = 0;
        // A victim waits for nothing, so it is on no later cycle: T rounds are enough.
        for (int round = 0; round < transactionCount; round++) {
            int lowest = lowestOnCycle();
            if (lowest == NONE) {
                return;
            }
            victimList[round] = lowest;
            victimCount = round + 1;
            end(lowest, VICTIM);
        }
    }

    private int lowestOnCycle() {
        int lowest = NONE;
        for (int t = 0; t < transactionCount; t++) {
            int reached = reach(t, ALL);
            if (contains(reached, t) && (lowest == NONE || isLower(t, lowest))) {
                lowest = t;
            }
        }
        return lowest;
    }

    /** Whom a path of one or more reported edges from t reaches, if it steps on none but the allowed. */
    private int reach(int t, int allowed) {
        int reached = reportedTargets(t) & allowed;
        // The shortest path has at most T edges (T only when it comes back to t), the first is taken already.
        for (int edges = 2; edges <= transactionCount; edges++) {
            for (int u = 0; u < transactionCount; u++) {
                if (contains(reached, u)) {
                    reached |= reportedTargets(u) & allowed;
                }
            }
        }
        return reached;
    }

    private int reportedTargets(int t) {
        int targets = 0;
        for (int l = 0; l < lockCount; l++) {
            if (marked[l * MAX_TRANSACTIONS + t]) {
                targets |= targetsByLock(t, l);
            }
        }
        return targets;
    }

    private int allTargets(int t) {
        int targets = 0;
        for (int l = 0; l < lockCount; l++) {
            if (isQueued(t, l)) {
                targets |= targetsByLock(t, l);
            }
        }
        return targets;
    }

    /** Those for whom t, which is in the queue of l, waits there: the holder and all before t. */
    private int targetsByLock(int t, int l) {
        int queue = l * MAX_TRANSACTIONS;
        int targets = 0;
        for (int u = 0; u < transactionCount; u++) {
            boolean isBefore = placeOf[queue + u] != NO_PLACE && placeOf[queue + u] < placeOf[queue + t];
            if (isBefore || holderOf[l] == u) {
                targets |= 1 << u;
            }
        }
        return targets;
    }

    private int higherThan(int t) {
        int higher = 0;
        for (int u = 0; u < transactionCount; u++) {
            if (isLower(t, u)) {
                higher |= 1 << u;
            }
        }
        return higher;
    }
}
