/** Promise 12: waiter. */
public final class Promise12Test {
    public static void main(String[] args) {
        ProbeDeadlock x = new ProbeDeadlock(8, 12, 3);
        Due.begin(x, 0, 10, 20, 30, 40, 50, 60, 99);
        for (int l = 0; l < 12; l++) {
            Due.queue(x, l);
        }
        Due.granted(x, 3, 11);
        Due.queue(x, 11);
        int[] order = {5, 0, 7, 1, 6, 2, 4};
        for (int t : order) {
            Due.queued(x, t, 11);
        }
        Due.queue(x, 11, 5, 0, 7, 1, 6, 2, 4);
        for (int l = 0; l < 11; l++) {
            Due.queue(x, l);
        }
        String before = Due.all(x);
        int[] wrong = {-1, -2, 7, 8, 95, 96, Integer.MIN_VALUE, Integer.MIN_VALUE + 1,
            Integer.MAX_VALUE - 1, Integer.MAX_VALUE};
        for (int n : wrong) {
            Due.is("waiter(11, " + n + ")", x.waiter(11, n), -1);
            Due.is("waiter(10, " + n + ")", x.waiter(10, n), -1);
        }
        for (int n : Due.FAR_OUT) {
            Due.is("waiter(" + n + ", 0)", x.waiter(n, 0), -1);
            Due.is("waiter(" + n + ", " + n + ")", x.waiter(n, n), -1);
        }
        Due.is("waiter(12, 0)", x.waiter(12, 0), -1);
        Due.is("after waiter", Due.all(x), before);

        Due.is("drop(7, 11)", x.drop(7, 11), 4);
        Due.queue(x, 11, 5, 0, 1, 6, 2, 4);
        Due.is("drop(3, 11)", x.drop(3, 11), 3);
        Due.queue(x, 11, 0, 1, 6, 2, 4);
        Due.is("abort(4)", x.abort(4), true);
        Due.queue(x, 11, 0, 1, 6, 2);
        Due.queued(x, 3, 11);
        Due.queue(x, 11, 0, 1, 6, 2, 3);
        Due.end();
    }
}
