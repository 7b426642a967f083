/** Promise 1: Construction and the start. */
public final class Promise01Test {
    public static void main(String[] args) {
        int[] transactions = {Integer.MIN_VALUE, -5, 0, 1, 2, 3, 7, 8, 9, 100, Integer.MAX_VALUE};
        int[] locks = {Integer.MIN_VALUE, -1, 0, 1, 2, 11, 12, 13, 99, Integer.MAX_VALUE};
        int[] sites = {Integer.MIN_VALUE, -1, 0, 1, 2, 3, 4, 5, 77, Integer.MAX_VALUE};
        for (int t : transactions) {
            for (int l : locks) {
                for (int s : sites) {
                    sizes(t, l, s);
                }
            }
        }
        objectsAreApart();
        Due.end();
    }

    private static void sizes(int transactions, int locks, int sites) {
        String made = "new(" + transactions + ", " + locks + ", " + sites + ") ";
        int dueT = Math.max(2, Math.min(8, transactions));
        int dueL = Math.max(1, Math.min(12, locks));
        int dueS = Math.max(1, Math.min(4, sites));
        ProbeDeadlock x = new ProbeDeadlock(transactions, locks, sites);
        String start = Due.all(x);
        Due.is(made + "victims()", x.victims(), 0);
        Due.is(made + "victim(0)", x.victim(0), -1);
        for (int t = -1; t < 10; t++) {
            Due.is(made + "state(" + t + ")", x.state(t), t >= 0 && t < dueT ? 0 : -1);
            Due.is(made + "priority(" + t + ")", x.priority(t), -1);
        }
        for (int l = -1; l < 14; l++) {
            Due.is(made + "holder(" + l + ")", x.holder(l), -1);
            Due.is(made + "waiter(" + l + ", 0)", x.waiter(l, 0), -1);
        }
        for (int s = -1; s < 6; s++) {
            Due.is(made + "report(" + s + ")", x.report(s), s >= 0 && s < dueS ? 0 : -1);
        }
        Due.is(made + "after reports", Due.all(x), start);
        for (int t = -1; t < 10; t++) {
            Due.is(made + "begin(" + t + ", 1)", x.begin(t, 1), t >= 0 && t < dueT);
        }
        for (int l = -1; l < 14; l++) {
            boolean there = l >= 0 && l < dueL;
            Due.is(made + "request(0, " + l + ")", x.request(0, l), there ? 1 : 0);
            Due.is(made + "request(1, " + l + ")", x.request(1, l), there ? 2 : 0);
        }
        // Each site marks its own locks and no others: this tells S.
        for (int s = 0; s < dueS; s++) {
            x.report(s);
            for (int l = 0; l < dueL; l++) {
                Due.is(made + "reported(1, " + l + ")", x.reported(1, l), l % dueS <= s);
            }
        }
    }

    private static void objectsAreApart() {
        ProbeDeadlock a = new ProbeDeadlock(3, 3, 3);
        ProbeDeadlock b = new ProbeDeadlock(3, 3, 3);
        String start = Due.all(b);
        Due.begin(a, 1, 2, 3);
        Due.granted(a, 0, 0);
        Due.granted(a, 1, 1);
        Due.queued(a, 0, 1);
        Due.queued(a, 1, 0);
        Due.is("settle()", a.settle(), 1);
        Due.is("the other object", Due.all(b), start);
    }
}
