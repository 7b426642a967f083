import java.util.ArrayList;
import java.util.List;

/**
 * The document once more, in another way: queues are lists, and cycles and paths are found by walking
 * every path without repeats. ModelTest holds the program against it.
 */
final class Model {
    private static final class Entry {
        final int transaction;
        boolean reported;

        Entry(int transaction) {
            this.transaction = transaction;
        }
    }

    final int transactions;
    final int locks;
    final int sites;
    private final int[] states;
    private final int[] priorities;
    private final int[] holders;
    private final List<List<Entry>> queues = new ArrayList<>();
    private final List<Integer> victims = new ArrayList<>();

    Model(int transactions, int locks, int sites) {
        this.transactions = Math.max(2, Math.min(8, transactions));
        this.locks = Math.max(1, Math.min(12, locks));
        this.sites = Math.max(1, Math.min(4, sites));
        states = new int[this.transactions];
        priorities = new int[this.transactions];
        holders = new int[this.locks];
        for (int l = 0; l < this.locks; l++) {
            holders[l] = -1;
            queues.add(new ArrayList<>());
        }
    }

    private boolean noTransaction(int t) {
        return t < 0 || t >= transactions;
    }

    private boolean noLock(int l) {
        return l < 0 || l >= locks;
    }

    private boolean live(int t) {
        return states[t] == 1 || states[t] == 2;
    }

    private Entry entry(int t, int l) {
        for (Entry e : queues.get(l)) {
            if (e.transaction == t) {
                return e;
            }
        }
        return null;
    }

    private void freshState(int t) {
        states[t] = 1;
        for (int l = 0; l < locks; l++) {
            if (entry(t, l) != null) {
                states[t] = 2;
            }
        }
    }

    private void pass(int l) {
        if (queues.get(l).isEmpty()) {
            holders[l] = -1;
        } else {
            holders[l] = queues.get(l).remove(0).transaction;
            freshState(holders[l]);
        }
    }

    private void end(int t, int state) {
        for (List<Entry> queue : queues) {
            queue.removeIf(e -> e.transaction == t);
        }
        for (int l = 0; l < locks; l++) {
            if (holders[l] == t) {
                pass(l);
            }
        }
        states[t] = state;
    }

    boolean begin(int t, int p) {
        if (noTransaction(t) || p < 0 || p > 99 || live(t)) {
            return false;
        }
        states[t] = 1;
        priorities[t] = p;
        return true;
    }

    int request(int t, int l) {
        if (noTransaction(t) || noLock(l) || !live(t) || holders[l] == t || entry(t, l) != null) {
            return 0;
        }
        if (holders[l] == -1) {
            holders[l] = t;
            return 1;
        }
        queues.get(l).add(new Entry(t));
        states[t] = 2;
        return 2;
    }

    int drop(int t, int l) {
        if (noTransaction(t) || noLock(l)) {
            return 0;
        }
        if (holders[l] == t) {
            pass(l);
            return 3;
        }
        if (queues.get(l).remove(entry(t, l))) {
            freshState(t);
            return 4;
        }
        return 0;
    }

    boolean commit(int t) {
        if (noTransaction(t) || states[t] != 1) {
            return false;
        }
        end(t, 0);
        return true;
    }

    boolean abort(int t) {
        if (noTransaction(t) || !live(t)) {
            return false;
        }
        end(t, 0);
        return true;
    }

    int report(int s) {
        if (s < 0 || s >= sites) {
            return -1;
        }
        for (int l = 0; l < locks; l++) {
            if (l % sites == s) {
                queues.get(l).forEach(e -> e.reported = true);
            }
        }
        return resolve();
    }

    int settle() {
        queues.forEach(queue -> queue.forEach(e -> e.reported = true));
        return resolve();
    }

    private int resolve() {
        victims.clear();
        while (true) {
            int lowest = -1;
            for (int t = 0; t < transactions; t++) {
                if (path(t, t, 0, -1) && (lowest == -1 || lower(t, lowest))) {
                    lowest = t;
                }
            }
            if (lowest == -1) {
                return victims.size();
            }
            victims.add(lowest);
            end(lowest, 3);
        }
    }

    private boolean lower(int a, int b) {
        return priorities[a] * 8 + a < priorities[b] * 8 + b;
    }

    /** Is there a reported path from t to u beside those passed, through higher than floor alone (-1: all)? */
    private boolean path(int t, int u, int passed, int floor) {
        for (int next = 0; next < transactions; next++) {
            boolean open = (passed >> next & 1) == 0 && (floor == -1 || lower(floor, next));
            if (open && waitsFor(t, next) == 2) {
                if (next == u || path(next, u, passed | 1 << next, floor)) {
                    return true;
                }
            }
        }
        return false;
    }

    int state(int t) {
        return noTransaction(t) ? -1 : states[t];
    }

    int priority(int t) {
        return noTransaction(t) || !live(t) ? -1 : priorities[t];
    }

    int holder(int l) {
        return noLock(l) ? -1 : holders[l];
    }

    int waiter(int l, int i) {
        return noLock(l) || i < 0 || i >= queues.get(l).size() ? -1 : queues.get(l).get(i).transaction;
    }

    boolean reported(int t, int l) {
        return !noTransaction(t) && !noLock(l) && entry(t, l) != null && entry(t, l).reported;
    }

    int waitsFor(int t, int u) {
        int answer = 0;
        if (noTransaction(t) || noTransaction(u) || t == u) {
            return answer;
        }
        for (int l = 0; l < locks; l++) {
            Entry mine = entry(t, l);
            Entry other = entry(u, l);
            if (mine != null) {
                List<Entry> queue = queues.get(l);
                if (holders[l] == u || other != null && queue.indexOf(other) < queue.indexOf(mine)) {
                    answer = Math.max(answer, mine.reported ? 2 : 1);
                }
            }
        }
        return answer;
    }

    boolean carries(int u, int t) {
        return !noTransaction(t) && !noTransaction(u) && t != u && live(t) && live(u) && path(t, u, 0, t);
    }

    int victims() {
        return victims.size();
    }

    int victim(int k) {
        return k < 0 || k >= victims.size() ? -1 : victims.get(k);
    }
}
