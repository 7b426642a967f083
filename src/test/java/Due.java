/** What the tests share: they compare answers with those that are due, and end with exit code 1 if one differs. */
final class Due {
    static final int[] FAR_OUT = {-1, -2, 13, 99, 100, Integer.MIN_VALUE, Integer.MIN_VALUE + 1, Integer.MAX_VALUE};

    private static int looked = 0;
    private static int wrong = 0;

    private Due() {
    }

    static void is(String call, long got, long want) {
        looked++;
        if (got != want) {
            wrong++;
            System.out.println(call + " answered " + got + ", due is " + want);
        }
    }

    static void is(String call, boolean got, boolean want) {
        is(call, got ? 1L : 0L, want ? 1L : 0L);
    }

    static void is(String call, String got, String want) {
        looked++;
        if (!got.equals(want)) {
            wrong++;
            System.out.println(call + ": got\n  " + got + "\ndue is\n  " + want);
        }
    }

    static boolean anyWrong() {
        return wrong != 0;
    }

    /** The test of one sentence of the document: if it goes wrong, the sentence is printed; the others still run. */
    static void sentence(String words, Runnable test) {
        int before = wrong;
        int lookedBefore = looked;
        try {
            test.run();
        } catch (RuntimeException | StackOverflowError e) {
            is("a call threw " + e + " (1) or not (0)", true, false);
        }
        is("the test of a sentence looks at something", looked > lookedBefore, true);
        if (wrong != before) {
            System.out.println("BROKEN: " + words);
        }
    }

    static void end() {
        System.out.println(looked + " answers looked at, " + wrong + " not as due");
        System.exit(wrong == 0 && looked > 0 ? 0 : 1);
    }

    /** Begins transactions 0, 1, 2 .. with these priorities. */
    static void begin(ProbeDeadlock x, int... priorities) {
        for (int t = 0; t < priorities.length; t++) {
            is("begin(" + t + ", " + priorities[t] + ")", x.begin(t, priorities[t]), true);
        }
    }

    static void granted(ProbeDeadlock x, int t, int... locks) {
        for (int l : locks) {
            is("request(" + t + ", " + l + ")", x.request(t, l), ProbeDeadlock.GRANTED);
        }
    }

    static void queued(ProbeDeadlock x, int t, int... locks) {
        for (int l : locks) {
            is("request(" + t + ", " + l + ")", x.request(t, l), ProbeDeadlock.QUEUED);
        }
    }

    /** The queue of l is just these transactions, in this order. */
    static void queue(ProbeDeadlock x, int l, int... waiters) {
        for (int i = 0; i < waiters.length; i++) {
            is("waiter(" + l + ", " + i + ")", x.waiter(l, i), waiters[i]);
        }
        is("waiter(" + l + ", " + waiters.length + ")", x.waiter(l, waiters.length), ProbeDeadlock.NONE);
    }

    /** Those whose entries in the queue of l are reported are just these. */
    static void marks(ProbeDeadlock x, int l, int... reported) {
        for (int t = -1; t <= ProbeDeadlock.MAX_TRANSACTIONS; t++) {
            boolean want = false;
            for (int r : reported) {
                want |= r == t;
            }
            is("reported(" + t + ", " + l + ")", x.reported(t, l), want);
        }
    }

    /** The holders of locks 0, 1, 2 .. */
    static void holders(ProbeDeadlock x, int... holders) {
        for (int l = 0; l < holders.length; l++) {
            is("holder(" + l + ")", x.holder(l), holders[l]);
        }
    }

    /** The list of victims is just this. */
    static void victims(ProbeDeadlock x, int... list) {
        is("victims()", x.victims(), list.length);
        for (int k = 0; k < list.length; k++) {
            is("victim(" + k + ")", x.victim(k), list[k]);
        }
        is("victim(" + list.length + ")", x.victim(list.length), ProbeDeadlock.NONE);
    }

    static void states(ProbeDeadlock x, int... states) {
        for (int t = 0; t < states.length; t++) {
            is("state(" + t + ")", x.state(t), states[t]);
        }
    }

    /** Every answer that can be had without a change. */
    static String all(ProbeDeadlock x) {
        StringBuilder s = new StringBuilder();
        for (int t = -1; t <= ProbeDeadlock.MAX_TRANSACTIONS; t++) {
            s.append("t").append(t).append(':').append(x.state(t)).append('/').append(x.priority(t)).append(' ');
        }
        for (int l = -1; l <= ProbeDeadlock.MAX_LOCKS; l++) {
            s.append("l").append(l).append(':').append(x.holder(l)).append('<');
            for (int i = -1; i <= ProbeDeadlock.MAX_TRANSACTIONS; i++) {
                s.append(x.waiter(l, i)).append(' ');
            }
            for (int t = -1; t <= ProbeDeadlock.MAX_TRANSACTIONS; t++) {
                s.append(x.reported(t, l) ? 'r' : '.');
            }
            s.append(' ');
        }
        for (int t = -1; t <= ProbeDeadlock.MAX_TRANSACTIONS; t++) {
            s.append("e").append(t).append(':');
            for (int u = -1; u <= ProbeDeadlock.MAX_TRANSACTIONS; u++) {
                s.append(x.waitsFor(t, u)).append(x.carries(u, t) ? 'c' : '.');
            }
            s.append(' ');
        }
        s.append("v").append(x.victims()).append(':');
        for (int k = -1; k <= ProbeDeadlock.MAX_TRANSACTIONS; k++) {
            s.append(x.victim(k)).append(' ');
        }
        return s.toString();
    }
}
