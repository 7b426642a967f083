import java.util.ArrayList;
import java.util.HashSet;
import java.util.List;
import java.util.Set;

/**
 * All promises, in small objects: every state that any calls can lead to, and in each of them every call, held
 * against Model. Numbers out of range are among the arguments.
 */
public final class EveryStateTest {
    /** A call, and the state before it as the calls that led there. */
    private record Step(Step before, int kind, int a, int b) {
    }

    private static final int BEGIN = 0;
    private static final int REQUEST = 1;
    private static final int DROP = 2;
    private static final int COMMIT = 3;
    private static final int ABORT = 4;
    private static final int REPORT = 5;
    private static final int SETTLE = 6;

    public static void main(String[] args) {
        explore(2, 1, 1, 0, 99);
        explore(2, 2, 1, 7);
        explore(2, 2, 2, 4, 5);
        explore(3, 1, 2, 0);
        explore(3, 2, 2, 50);
        Due.end();
    }

    private static void explore(int transactions, int locks, int sites, int... priorities) {
        List<Step> calls = calls(transactions, locks, sites, priorities);
        Set<String> seen = new HashSet<>();
        List<Step> states = new ArrayList<>();
        states.add(null);
        seen.add(seen(new Model(transactions, locks, sites)));
        for (int i = 0; i < states.size() && !Due.anyWrong(); i++) {
            for (Step call : calls) {
                Step step = new Step(states.get(i), call.kind, call.a, call.b);
                ProbeDeadlock x = new ProbeDeadlock(transactions, locks, sites);
                Model m = new Model(transactions, locks, sites);
                replay(step.before, x, m);
                int answer = make(step, x);
                int due = make(step, m);
                String left = seen(m);
                String leftByX = seen(x, m);
                // To tell a long way takes long, and is of use only when something is wrong.
                String told = answer == due && leftByX.equals(left) ? "" : told(step);
                Due.is(told, answer, due);
                Due.is(told, leftByX, left);
                if (seen.add(left)) {
                    states.add(step);
                }
            }
        }
        System.out.println(transactions + " transactions, " + locks + " locks, " + sites + " sites: "
            + states.size() + " states");
    }

    private static List<Step> calls(int transactions, int locks, int sites, int[] priorities) {
        List<Step> calls = new ArrayList<>();
        for (int t = -1; t <= transactions; t++) {
            for (int p : priorities) {
                calls.add(new Step(null, BEGIN, t, p));
            }
            for (int l = -1; l <= locks; l++) {
                calls.add(new Step(null, REQUEST, t, l));
                calls.add(new Step(null, DROP, t, l));
            }
            calls.add(new Step(null, COMMIT, t, 0));
            calls.add(new Step(null, ABORT, t, 0));
        }
        for (int s = -1; s <= sites; s++) {
            calls.add(new Step(null, REPORT, s, 0));
        }
        calls.add(new Step(null, BEGIN, 0, -1));
        calls.add(new Step(null, BEGIN, 0, 100));
        calls.add(new Step(null, SETTLE, 0, 0));
        return calls;
    }

    private static void replay(Step last, ProbeDeadlock x, Model m) {
        List<Step> steps = new ArrayList<>();
        for (Step step = last; step != null; step = step.before) {
            steps.add(step);
        }
        for (int i = steps.size() - 1; i >= 0; i--) {
            make(steps.get(i), x);
            make(steps.get(i), m);
        }
    }

    private static int make(Step step, ProbeDeadlock x) {
        return switch (step.kind) {
            case BEGIN -> x.begin(step.a, step.b) ? 1 : 0;
            case REQUEST -> x.request(step.a, step.b);
            case DROP -> x.drop(step.a, step.b);
            case COMMIT -> x.commit(step.a) ? 1 : 0;
            case ABORT -> x.abort(step.a) ? 1 : 0;
            case REPORT -> x.report(step.a);
            default -> x.settle();
        };
    }

    private static int make(Step step, Model m) {
        return switch (step.kind) {
            case BEGIN -> m.begin(step.a, step.b) ? 1 : 0;
            case REQUEST -> m.request(step.a, step.b);
            case DROP -> m.drop(step.a, step.b);
            case COMMIT -> m.commit(step.a) ? 1 : 0;
            case ABORT -> m.abort(step.a) ? 1 : 0;
            case REPORT -> m.report(step.a);
            default -> m.settle();
        };
    }

    private static String told(Step last) {
        StringBuilder s = new StringBuilder();
        String[] names = {"begin", "request", "drop", "commit", "abort", "report", "settle"};
        for (Step step = last; step != null; step = step.before) {
            s.insert(0, names[step.kind] + "(" + step.a + ", " + step.b + ") ");
        }
        return s.toString();
    }

    private static String seen(Model m) {
        StringBuilder s = new StringBuilder();
        for (int t = 0; t < m.transactions; t++) {
            s.append(m.state(t)).append(m.priority(t));
            for (int u = 0; u < m.transactions; u++) {
                s.append(m.waitsFor(t, u)).append(m.carries(u, t));
            }
        }
        for (int l = 0; l < m.locks; l++) {
            s.append(m.holder(l));
            for (int i = 0; i < m.transactions; i++) {
                s.append(m.waiter(l, i)).append(m.reported(i, l));
            }
        }
        s.append(m.victims());
        for (int k = 0; k < m.transactions; k++) {
            s.append(m.victim(k));
        }
        return s.toString();
    }

    /** The same of the program; m tells the sizes alone. */
    private static String seen(ProbeDeadlock x, Model m) {
        StringBuilder s = new StringBuilder();
        for (int t = 0; t < m.transactions; t++) {
            s.append(x.state(t)).append(x.priority(t));
            for (int u = 0; u < m.transactions; u++) {
                s.append(x.waitsFor(t, u)).append(x.carries(u, t));
            }
        }
        for (int l = 0; l < m.locks; l++) {
            s.append(x.holder(l));
            for (int i = 0; i < m.transactions; i++) {
                s.append(x.waiter(l, i)).append(x.reported(i, l));
            }
        }
        s.append(x.victims());
        for (int k = 0; k < m.transactions; k++) {
            s.append(x.victim(k));
        }
        return s.toString();
    }
}
