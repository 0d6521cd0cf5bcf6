/** The example of README.md, call by call: what stands behind its calls there is what they answer. */
public final class ReadmeTest {
    public static void main(String[] args) {
        StateExplorer x = new StateExplorer();
        int in = x.gate(0);
        int latch = x.gate(1);
        int and = x.gate(2);
        x.feed(and, in, false);
        x.feed(and, latch, true);
        x.feed(latch, and, false);
        x.output(latch);
        Checks.same("explore()", x.explore(), 2);
        Checks.same("distance(1)", x.distance(1), 1);
        Checks.same("way(1, 0)", x.way(1, 0), 1);
        Checks.same("next(1, 1)", x.next(1, 1), 0);
        Checks.same("doubt(0)", x.doubt(0), StateExplorer.NONE);
        Checks.same("always(and)", x.always(and), 2);
        Checks.same("isSame(in, and)", x.isSame(in, and) ? 1 : 0, 0);
        Checks.same("group(1)", x.group(1), 1);
        Checks.same("count(8)", x.count(8), 2);
        Checks.finish();
    }
}
