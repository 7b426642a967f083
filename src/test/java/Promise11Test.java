/** Promise 11: holder. */
public final class Promise11Test {
    public static void main(String[] args) {
        ProbeDeadlock x = new ProbeDeadlock(4, 3, 1);
        due(x, -1, -1, -1);
        Due.begin(x, 10, 20, 30);
        Due.granted(x, 0, 0);
        Due.granted(x, 1, 1);
        due(x, 0, 1, -1);
        Due.queued(x, 1, 0);
        Due.queued(x, 2, 0);
        Due.queued(x, 0, 1);
        due(x, 0, 1, -1);
        Due.is("settle()", x.settle(), 1);
        due(x, 1, 1, -1);
        Due.is("drop(1, 0)", x.drop(1, 0), 3);
        due(x, 2, 1, -1);
        Due.is("commit(2)", x.commit(2), true);
        due(x, -1, 1, -1);
        String before = Due.all(x);
        Due.is("holder(3)", x.holder(3), -1);
        Due.is("holder(12)", x.holder(12), -1);
        for (int n : Due.FAR_OUT) {
            Due.is("holder(" + n + ")", x.holder(n), -1);
        }
        Due.is("after holder", Due.all(x), before);

        ProbeDeadlock all = new ProbeDeadlock(8, 12, 4);
        Due.begin(all, 1, 1, 1, 1, 1, 1, 1, 1);
        for (int l = 0; l < 12; l++) {
            Due.granted(all, 7 - l % 8, l);
        }
        for (int l = 0; l < 12; l++) {
            Due.is("holder(" + l + ")", all.holder(l), 7 - l % 8);
        }
        Due.end();
    }

    private static void due(ProbeDeadlock x, int... holders) {
        for (int l = 0; l < holders.length; l++) {
            Due.is("holder(" + l + ")", x.holder(l), holders[l]);
        }
    }
}
