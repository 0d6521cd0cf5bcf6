/**
 * A desk that looks at all states that a net of gates can come to.
 *
 * <p>A pair of a state and a choice has the number state * 16 + choice. What holds of pairs is kept
 * as bits of longs, 64 pairs (four states) to a word, so that one pass over the net serves them all.
 */
public final class StateExplorer {
    public static final int NONE = -1;

    private static final int INPUT = 0;
    private static final int LATCH = 1;
    private static final int AND = 2;
    private static final int OR = 3;

    private static final int MOST_GATES = 60;
    private static final int MOST_INPUTS = 4;
    private static final int MOST_LATCHES = 8;
    private static final int MOST_FEEDS = 240;
    private static final int MOST_OUTPUTS = 6;
    private static final int MOST_STATES = 256;
    private static final int MOST_CHOICES = 16;
    private static final int MOST_WORDS = 64;

    private static final int DOUBT_DISTANCE = 0;
    private static final int DOUBT_STATE = 1;
    private static final int DOUBT_CHOICE = 2;

    private final Net net;
    private final Table table;
    private final Walk walk;
    private final Partition partition;
    private boolean explored;

    public StateExplorer() {
        net = new Net();
        table = new Table();
        walk = new Walk();
        partition = new Partition();
        explored = false;
    }

    public int gate(int sort) throws IllegalArgumentException {
        if (sort < INPUT || sort > OR) {
            throw new IllegalArgumentException("a sort is 0 to 3");
        }
        if (net.isFullFor(sort)) {
            return NONE;
        }
        explored = false;
        return net.addGate(sort);
    }

    public int feed(int to, int from, boolean negated)
            throws IndexOutOfBoundsException, IllegalStateException {
        requireGate(to);
        requireGate(from);
        if (!net.takesFeed(to)) {
            throw new IllegalStateException("this gate takes no feed, or no more");
        }
        if (net.feedTotal() >= MOST_FEEDS) {
            return NONE;
        }
        explored = false;
        return net.addFeed(to, from, negated);
    }

    public int output(int gate) throws IndexOutOfBoundsException {
        requireGate(gate);
        if (net.outputTotal >= MOST_OUTPUTS) {
            return NONE;
        }
        explored = false;
        return net.addOutput(gate);
    }

    public int clear() {
        int gatesBefore = net.gateTotal;
        net.empty();
        explored = false;
        return gatesBefore;
    }

    public int explore() {
        if (!explored) {
            table.fill(net);
            walk.run(net, table);
            partition.split(net, table, walk);
            explored = true;
        }
        return walk.reached;
    }

    public int distance(int state) throws IllegalStateException, IndexOutOfBoundsException {
        requireExplored();
        requireState(state);
        return walk.distances[state];
    }

    public int way(int state, int i) throws IllegalStateException, IndexOutOfBoundsException {
        requireExplored();
        requireState(state);
        if (i < 0) {
            throw new IndexOutOfBoundsException("steps are counted from 0 on");
        }
        return walk.stepOfWay(state, i);
    }

    public int many(int distance) throws IllegalStateException {
        requireExplored();
        return walk.reachedAt(distance);
    }

    public int next(int state, int choice) throws IllegalStateException, IndexOutOfBoundsException {
        requireExplored();
        requireState(state);
        if (choice < 0 || choice >= MOST_CHOICES) {
            throw new IndexOutOfBoundsException("a choice is 0 to 15");
        }
        return table.nextOf(state, choice & (net.choiceTotal() - 1));
    }

    public int doubt(int what) throws IllegalStateException, IndexOutOfBoundsException {
        requireExplored();
        if (what < DOUBT_DISTANCE || what > DOUBT_CHOICE) {
            throw new IndexOutOfBoundsException("a doubt is asked for by 0 to 2");
        }
        if (walk.doubtState == NONE) {
            return NONE;
        }
        if (what == DOUBT_DISTANCE) {
            return walk.distances[walk.doubtState];
        }
        return what == DOUBT_STATE ? walk.doubtState : walk.doubtChoice;
    }

    public int always(int gate) throws IllegalStateException, IndexOutOfBoundsException {
        requireExplored();
        requireGate(gate);
        boolean isOne = walk.isEver(table, gate, 1);
        boolean isZero = walk.isEver(table, gate, 0);
        if (isOne == isZero) {
            return 2;
        }
        return isOne ? 1 : 0;
    }

    public boolean isSame(int gate, int other)
            throws IllegalStateException, IndexOutOfBoundsException {
        requireExplored();
        requireGate(gate);
        requireGate(other);
        return !walk.everDiffer(table, gate, other);
    }

    public int group(int state) throws IllegalStateException, IndexOutOfBoundsException {
        requireExplored();
        requireState(state);
        return walk.distances[state] == NONE ? NONE : partition.names[state];
    }

    public int count(int what) {
        switch (what) {
            case 0:
                return net.gateTotal;
            case 1:
                return net.feedTotal();
            case 2:
                return net.inputTotal;
            case 3:
                return net.latchTotal;
            case 4:
                return net.outputTotal;
            case 5:
                return explored ? 1 : 0;
            case 6:
                return explored ? walk.reached : 0;
            case 7:
                return explored ? walk.greatestDistance() : 0;
            case 8:
                return explored ? partition.total : 0;
            case 9:
                return explored ? walk.doubts : 0;
            default:
                return NONE;
        }
    }

    private void requireExplored() {
        if (!explored) {
            throw new IllegalStateException("nothing is explored");
        }
    }

    private void requireGate(int gate) {
        if (gate < 0 || gate >= net.gateTotal) {
            throw new IndexOutOfBoundsException("there is no such gate");
        }
    }

    private void requireState(int state) {
        if (state < 0 || state >= net.stateTotal()) {
            throw new IndexOutOfBoundsException("there is no such state");
        }
    }

    // Four states with their 16 choices share a word; the next two say where a state stands.
    private static int wordOf(int state) {
        return state >> 2;
    }

    private static int shiftOf(int state) {
        return (state & 3) << 4;
    }

    /** The gates with their feeds. A literal, gate * 2 (+ 1 if negated), says how a gate is taken. */
    private static final class Net {
        final int[] sorts = new int[MOST_GATES];
        // Which input or latch a gate is, counted among its like.
        final int[] ranks = new int[MOST_GATES];
        // The feeds of gate g are the literals from starts[g] on, before starts[g + 1].
        final int[] starts = new int[MOST_GATES + 1];
        final int[] literals = new int[MOST_FEEDS];
        // A latch without a feed has its own literal here, since it stays as it is.
        final int[] nextLiterals = new int[MOST_LATCHES];
        final int[] outputs = new int[MOST_OUTPUTS];
        int gateTotal = 0;
        int inputTotal = 0;
        int latchTotal = 0;
        int outputTotal = 0;

        void empty() {
            gateTotal = 0;
            inputTotal = 0;
            latchTotal = 0;
            outputTotal = 0;
        }

        int feedTotal() {
            return starts[gateTotal];
        }

        int stateTotal() {
            return 1 << latchTotal;
        }

        int choiceTotal() {
            return 1 << inputTotal;
        }

        int wordTotal() {
            return wordOf(stateTotal() - 1) + 1;
        }

        boolean isFullFor(int sort) {
            return gateTotal >= MOST_GATES
                    || (sort == INPUT && inputTotal >= MOST_INPUTS)
                    || (sort == LATCH && latchTotal >= MOST_LATCHES);
        }

        int addGate(int sort) {
            int gate = gateTotal;
            sorts[gate] = sort;
            if (sort == INPUT) {
                ranks[gate] = inputTotal;
                inputTotal++;
            } else if (sort == LATCH) {
                ranks[gate] = latchTotal;
                nextLiterals[latchTotal] = gate * 2;
                latchTotal++;
            }
            starts[gate + 1] = starts[gate];
            gateTotal++;
            return gate;
        }

        int feedsOf(int gate) {
            return starts[gate + 1] - starts[gate];
        }

        boolean takesFeed(int gate) {
            if (sorts[gate] == LATCH) {
                return feedsOf(gate) == 0;
            }
            return sorts[gate] != INPUT;
        }

        int addFeed(int to, int from, boolean negated) {
            int literal = from * 2 + (negated ? 1 : 0);
            int place = starts[to + 1];
            System.arraycopy(literals, place, literals, place + 1, feedTotal() - place);
            literals[place] = literal;
            for (int gate = to + 1; gate <= gateTotal; gate++) {
                starts[gate]++;
            }
            if (sorts[to] == LATCH) {
                nextLiterals[ranks[to]] = literal;
            }
            return feedsOf(to);
        }

        int addOutput(int gate) {
            outputs[outputTotal] = gate;
            outputTotal++;
            return outputTotal;
        }
    }

    /** What the net comes to with every state and choice, reached or not. */
    private static final class Table {
        // The pairs at which input 0, 1, .. is 1: every word has the same choices.
        private static final long[] INPUT_WORDS = {
            0xAAAAAAAAAAAAAAAAL, 0xCCCCCCCCCCCCCCCCL, 0xF0F0F0F0F0F0F0F0L, 0xFF00FF00FF00FF00L
        };
        // The pairs at which latch 0, 1 is 1; later latches are the same in a whole word.
        private static final long[] LATCH_WORDS = {0xFFFF0000FFFF0000L, 0xFFFFFFFF00000000L};

        // Where each literal is known to be 1, in the word that is being settled.
        final long[] known = new long[MOST_GATES * 2];
        final long[] settled = new long[MOST_WORDS];
        final long[] values = new long[MOST_GATES * MOST_WORDS];
        final int[] nextStates = new int[MOST_STATES * MOST_CHOICES];

        void fill(Net net) {
            int words = net.wordTotal();
            for (int word = 0; word < words; word++) {
                begin(net, word);
                settle(net);
                keep(net, word);
            }
            int states = net.stateTotal();
            int choices = net.choiceTotal();
            for (int state = 0; state < states; state++) {
                for (int choice = 0; choice < choices; choice++) {
                    nextStates[state * MOST_CHOICES + choice] = findNext(net, state, choice);
                }
            }
        }

        private void begin(Net net, int word) {
            for (int gate = 0; gate < net.gateTotal; gate++) {
                int sort = net.sorts[gate];
                if (sort == INPUT) {
                    set(gate, INPUT_WORDS[net.ranks[gate]]);
                } else if (sort == LATCH) {
                    set(gate, latchBits(net.ranks[gate], word));
                } else {
                    known[gate * 2] = 0;
                    known[gate * 2 + 1] = 0;
                }
            }
        }

        private void set(int gate, long ones) {
            known[gate * 2] = ones;
            known[gate * 2 + 1] = ~ones;
        }

        private static long latchBits(int rank, int word) {
            if (rank < LATCH_WORDS.length) {
                return LATCH_WORDS[rank];
            }
            return ((word >> (rank - LATCH_WORDS.length)) & 1) == 1 ? -1L : 0L;
        }

        // A sweep that still changes a pair makes one more of its gates known, so there can't be
        // more such sweeps than gates.
        private void settle(Net net) {
            for (int sweep = 0; sweep < net.gateTotal; sweep++) {
                if (!sweepOnce(net)) {
                    return;
                }
            }
        }

        private boolean sweepOnce(Net net) {
            boolean changed = false;
            for (int gate = 0; gate < net.gateTotal; gate++) {
                int sort = net.sorts[gate];
                if ((sort == AND || sort == OR) && learn(net, gate, sort == AND ? 0 : 1)) {
                    changed = true;
                }
            }
            return changed;
        }

        // An or is an and with its feeds and itself negated: flip 1 turns every literal round.
        private boolean learn(Net net, int gate, int flip) {
            long all = -1L;
            long broken = 0L;
            int end = net.starts[gate + 1];
            for (int place = net.starts[gate]; place < end; place++) {
                int literal = net.literals[place] ^ flip;
                all &= known[literal];
                broken |= known[literal ^ 1];
            }
            int self = gate * 2 + flip;
            boolean changed = known[self] != all || known[self ^ 1] != broken;
            known[self] = all;
            known[self ^ 1] = broken;
            return changed;
        }

        private void keep(Net net, int word) {
            long settles = -1L;
            for (int gate = 0; gate < net.gateTotal; gate++) {
                settles &= known[gate * 2] | known[gate * 2 + 1];
                values[gate * MOST_WORDS + word] = known[gate * 2];
            }
            settled[word] = settles;
        }

        private int findNext(Net net, int state, int choice) {
            int word = wordOf(state);
            int bit = shiftOf(state) + choice;
            if (((settled[word] >>> bit) & 1L) == 0L) {
                return NONE;
            }
            int found = 0;
            for (int latch = 0; latch < net.latchTotal; latch++) {
                int literal = net.nextLiterals[latch];
                long value = values[(literal >> 1) * MOST_WORDS + word] >>> bit;
                found |= (((int) value ^ literal) & 1) << latch;
            }
            return found;
        }

        int nextOf(int state, int choice) {
            return nextStates[state * MOST_CHOICES + choice];
        }

        /** With which choices the net settles in a state, a bit for each. */
        int settledIn(int state) {
            return (int) (settled[wordOf(state)] >>> shiftOf(state)) & 0xFFFF;
        }

        /** With which choices a gate is 1 in a state, a bit for each. */
        int onesIn(int gate, int state) {
            return (int) (values[gate * MOST_WORDS + wordOf(state)] >>> shiftOf(state)) & 0xFFFF;
        }
    }

    /** The states that are reached from state 0, and what is met in them. */
    private static final class Walk {
        final int[] distances = new int[MOST_STATES];
        // The reached states in the order of their distances, and there of their least ways. So
        // the state and the choice that come to a state first end its least way.
        final int[] order = new int[MOST_STATES];
        final int[] parents = new int[MOST_STATES];
        final int[] steps = new int[MOST_STATES];
        // The pairs of a reached state and a choice with which the net settles.
        final long[] settledPairs = new long[MOST_WORDS];
        int words = 0;
        int reached = 0;
        int doubts = 0;
        int doubtState = NONE;
        int doubtChoice = NONE;

        void run(Net net, Table table) {
            forget(net);
            reach(0, 0, NONE, NONE);
            int choices = net.choiceTotal();
            for (int at = 0; at < reached && at < MOST_STATES; at++) {
                leave(table, order[at], choices);
            }
        }

        private void forget(Net net) {
            int states = net.stateTotal();
            for (int state = 0; state < states; state++) {
                distances[state] = NONE;
            }
            words = net.wordTotal();
            for (int word = 0; word < words; word++) {
                settledPairs[word] = 0L;
            }
            reached = 0;
            doubts = 0;
            doubtState = NONE;
            doubtChoice = NONE;
        }

        private void reach(int state, int distance, int parent, int step) {
            distances[state] = distance;
            parents[state] = parent;
            steps[state] = step;
            order[reached] = state;
            reached++;
        }

        private void leave(Table table, int state, int choices) {
            settledPairs[wordOf(state)] |= (long) table.settledIn(state) << shiftOf(state);
            for (int choice = 0; choice < choices; choice++) {
                int following = table.nextOf(state, choice);
                if (following == NONE) {
                    noteDoubt(state, choice);
                } else if (distances[following] == NONE) {
                    reach(following, distances[state] + 1, state, choice);
                }
            }
        }

        // Distances only grow as the walk goes on, but states of one distance come in any order.
        private void noteDoubt(int state, int choice) {
            doubts++;
            if (doubtState == NONE
                    || (distances[state] == distances[doubtState] && state < doubtState)) {
                doubtState = state;
                doubtChoice = choice;
            }
        }

        int stepOfWay(int state, int i) {
            int length = distances[state];
            if (length == NONE || i >= length) {
                return NONE;
            }
            int at = state;
            for (int step = length - 1; step > i; step--) {
                at = parents[at];
            }
            return steps[at];
        }

        int reachedAt(int distance) {
            int found = 0;
            for (int at = 0; at < reached; at++) {
                if (distances[order[at]] == distance) {
                    found++;
                }
            }
            return found;
        }

        int greatestDistance() {
            return distances[order[reached - 1]];
        }

        boolean isEver(Table table, int gate, int value) {
            long flip = value == 1 ? 0L : -1L;
            for (int word = 0; word < words; word++) {
                long bits = table.values[gate * MOST_WORDS + word] ^ flip;
                if ((bits & settledPairs[word]) != 0L) {
                    return true;
                }
            }
            return false;
        }

        boolean everDiffer(Table table, int gate, int other) {
            for (int word = 0; word < words; word++) {
                long differing = table.values[gate * MOST_WORDS + word]
                        ^ table.values[other * MOST_WORDS + word];
                if ((differing & settledPairs[word]) != 0L) {
                    return true;
                }
            }
            return false;
        }
    }

    /** The reached states put into groups: one group at first, split as long as states differ. */
    private static final class Partition {
        // The least state of each reached state's group; finer is where a round writes its own.
        final int[] names = new int[MOST_STATES];
        final int[] finer = new int[MOST_STATES];
        // Of a group that a round splits, the least states of the parts, each with the one behind.
        final int[] behind = new int[MOST_STATES];
        int total = 0;

        void split(Net net, Table table, Walk walk) {
            int states = net.stateTotal();
            for (int state = 0; state < states; state++) {
                names[state] = 0;
            }
            total = 1;
            for (int round = 0; round < MOST_STATES; round++) {
                int before = total;
                total = splitOnce(net, table, walk);
                if (total == before) {
                    return;
                }
            }
        }

        // Going up the states makes the first one of each part its least.
        private int splitOnce(Net net, Table table, Walk walk) {
            int states = net.stateTotal();
            int parts = 0;
            for (int state = 0; state < states; state++) {
                if (walk.distances[state] != NONE) {
                    finer[state] = place(net, table, state);
                    if (finer[state] == state) {
                        parts++;
                    }
                }
            }
            System.arraycopy(finer, 0, names, 0, states);
            return parts;
        }

        private int place(Net net, Table table, int state) {
            int last = names[state];
            if (last == state) {
                behind[state] = NONE;
                return state;
            }
            for (int part = last, tried = 0; part != NONE && tried < MOST_STATES; tried++) {
                if (looksAlike(net, table, part, state) && goesAlike(net, table, part, state)) {
                    return part;
                }
                last = part;
                part = behind[part];
            }
            behind[last] = state;
            behind[state] = NONE;
            return state;
        }

        private static boolean looksAlike(Net net, Table table, int state, int other) {
            int settles = table.settledIn(state);
            if (settles != table.settledIn(other)) {
                return false;
            }
            for (int i = 0; i < net.outputTotal; i++) {
                int gate = net.outputs[i];
                int differing = table.onesIn(gate, state) ^ table.onesIn(gate, other);
                if ((differing & settles) != 0) {
                    return false;
                }
            }
            return true;
        }

        private boolean goesAlike(Net net, Table table, int state, int other) {
            int choices = net.choiceTotal();
            for (int choice = 0; choice < choices; choice++) {
                if (nameOfNext(table, state, choice) != nameOfNext(table, other, choice)) {
                    return false;
                }
            }
            return true;
        }

        private int nameOfNext(Table table, int state, int choice) {
            int following = table.nextOf(state, choice);
            return following == NONE ? NONE : names[following];
        }
    }
}
