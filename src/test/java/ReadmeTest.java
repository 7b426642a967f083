/** The example of README.md answers what README.md says. */
public final class ReadmeTest {
    public static void main(String[] args) {
        ProbeDeadlock x = new ProbeDeadlock(2, 2, 1);
        Due.begin(x, 50, 20);
        Due.granted(x, 0, 0);
        Due.granted(x, 1, 1);
        Due.queued(x, 0, 1);
        Due.queued(x, 1, 0);
        Due.is("waitsFor(0, 1)", x.waitsFor(0, 1), 1);
        Due.is("report(0)", x.report(0), 1);
        Due.is("victim(0)", x.victim(0), 1);
        Due.is("state(1)", x.state(1), ProbeDeadlock.VICTIM);
        Due.is("holder(1)", x.holder(1), 0);
        Due.is("commit(0)", x.commit(0), true);
        Due.end();
    }
}
