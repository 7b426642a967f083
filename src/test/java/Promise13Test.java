/** Promise 13: reported. */
public final class Promise13Test {
    public static void main(String[] args) {
        ProbeDeadlock x = new ProbeDeadlock(4, 3, 2);
        Due.begin(x, 10, 20, 30, 40);
        Due.granted(x, 0, 0, 1);
        Due.queued(x, 1, 0, 1);
        due(x, "... ... ... ...");
        Due.is("report(0)", x.report(0), 0);
        due(x, "... r.. ... ...");
        Due.queued(x, 2, 0);
        due(x, "... r.. ... ...");
        Due.is("report(1)", x.report(1), 0);
        due(x, "... rr. ... ...");
        Due.is("report(0)", x.report(0), 0);
        due(x, "... rr. r.. ...");
        String before = Due.all(x);
        for (int n : Due.FAR_OUT) {
            Due.is("reported(" + n + ", 0)", x.reported(n, 0), false);
            Due.is("reported(1, " + n + ")", x.reported(1, n), false);
            Due.is("reported(" + n + ", " + n + ")", x.reported(n, n), false);
        }
        Due.is("reported(4, 0)", x.reported(4, 0), false);
        Due.is("reported(1, 3)", x.reported(1, 3), false);
        Due.is("after reported", Due.all(x), before);
        Due.is("drop(0, 0)", x.drop(0, 0), 3);
        due(x, "... .r. r.. ...");
        Due.is("drop(1, 1)", x.drop(1, 1), 4);
        due(x, "... ... r.. ...");
        Due.is("abort(2)", x.abort(2), true);
        due(x, "... ... ... ...");
        Due.is("begin(2, 1)", x.begin(2, 1), true);
        Due.queued(x, 2, 0);
        due(x, "... ... ... ...");
        Due.end();
    }

    /** For each transaction a word, in it a letter for each lock. */
    private static void due(ProbeDeadlock x, String marks) {
        for (int t = 0; t < 4; t++) {
            for (int l = 0; l < 3; l++) {
                Due.is("reported(" + t + ", " + l + ")", x.reported(t, l), marks.charAt(t * 4 + l) == 'r');
            }
        }
    }
}
