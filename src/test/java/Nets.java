/** Nets that several tests build. */
final class Nets {
    private static final int INPUT = 0;
    private static final int LATCH = 1;
    private static final int AND = 2;

    private Nets() {
    }

    static StateExplorer of(int... sorts) {
        StateExplorer x = new StateExplorer();
        for (int sort : sorts) {
            x.gate(sort);
        }
        return x;
    }

    /** Gates 0 to bits - 1 are latches that count up by one while the input, gate bits, is 1. */
    static StateExplorer counter(int bits) {
        StateExplorer x = new StateExplorer();
        for (int bit = 0; bit < bits; bit++) {
            x.gate(LATCH);
        }
        int carry = x.gate(INPUT);
        for (int bit = 0; bit < bits; bit++) {
            int both = and(x, bit, false, carry, false);
            int neither = and(x, bit, true, carry, true);
            x.feed(bit, and(x, both, true, neither, true), false);
            carry = both;
        }
        return x;
    }

    static int and(StateExplorer x, int a, boolean notA, int b, boolean notB) {
        int gate = x.gate(AND);
        x.feed(gate, a, notA);
        x.feed(gate, b, notB);
        return gate;
    }

    static StateExplorer explored(int... sorts) {
        StateExplorer x = of(sorts);
        x.explore();
        return x;
    }
}
