import java.util.ArrayList;
import java.util.HashMap;
import java.util.List;
import java.util.Map;
import java.util.Random;

/** Runs of calls (always the same ones) on the class and on a plain model; both answer alike. */
public final class ModelTest {
    private static final int NONE = -1;

    public static void main(String[] args) {
        for (int seed = 0; seed < 200; seed++) {
            new Run(seed).anyCalls();
        }
        for (int seed = 1000; seed < 1500; seed++) {
            new Run(seed).netThenAllQuestions();
        }
        for (int seed = 2000; seed < 2080; seed++) {
            new Run(seed).wideNetThenAllQuestions();
        }
        Checks.finish();
    }

    /** One object of each and what was called on them. */
    private static final class Run {
        private final int seed;
        private final Random random;
        private final StateExplorer explorer = new StateExplorer();
        private final Model model = new Model();
        private int calls = 0;

        Run(int seed) {
            this.seed = seed;
            this.random = new Random(seed);
        }

        /** Any calls in any order, wrong ones too, to the 512th. */
        void anyCalls() {
            int clearing = 1 + random.nextInt(60);
            while (calls < 512) {
                int kind = random.nextInt(100);
                if (kind < 20) {
                    call("gate", random.nextInt(40) == 0 ? random.nextInt(9) - 3 : random.nextInt(4), 0, false);
                } else if (kind < 50) {
                    call("feed", nearGate(), nearGate(), random.nextBoolean());
                } else if (kind < 53) {
                    call("output", nearGate(), 0, false);
                } else if (kind < 60) {
                    call("explore", 0, 0, false);
                    for (int i = random.nextInt(12); i > 0; i--) {
                        question();
                    }
                } else if (kind == 60 && random.nextInt(clearing) == 0) {
                    call("clear", 0, 0, false);
                } else if (kind < 80) {
                    question();
                }
            }
        }

        private void question() {
            int states = 1 << model.latches();
            int state = random.nextInt(12) == 0 ? random.nextInt(9) * 40 - 40 : random.nextInt(states);
            switch (random.nextInt(9)) {
                case 0 -> call("distance", state, 0, false);
                case 1 -> call("way", state, random.nextInt(7) - 1, false);
                case 2 -> call("many", random.nextInt(10) - 2, 0, false);
                case 3 -> call("next", state, random.nextInt(19) - 1, false);
                case 4 -> call("doubt", random.nextInt(5) - 1, 0, false);
                case 5 -> call("always", nearGate(), 0, false);
                case 6 -> call("isSame", nearGate(), nearGate(), false);
                case 7 -> call("group", state, 0, false);
                default -> call("count", random.nextInt(13) - 1, 0, false);
            }
        }

        private int nearGate() {
            int gates = model.sorts.size();
            return random.nextInt(25) == 0 ? random.nextInt(gates + 5) - 2 : random.nextInt(gates + 1);
        }

        /** A net as bigger runs have it, mostly without loops, then every question about it. */
        void netThenAllQuestions() {
            int inputs = random.nextInt(5);
            int latches = random.nextInt(random.nextInt(3) == 0 ? 9 : 6);
            int others = random.nextInt(48);
            for (int i = 0; i < inputs + latches + others; i++) {
                int sort = i < inputs ? 0 : i < inputs + latches ? 1 : 2 + random.nextInt(2);
                call("gate", sort, 0, false);
                for (int feeds = sort < 2 ? 0 : random.nextInt(4); feeds > 0; feeds--) {
                    boolean isLoop = random.nextInt(40) == 0;
                    call("feed", i, random.nextInt(isLoop ? i + 1 : Math.max(1, i)), random.nextBoolean());
                }
            }
            int gates = inputs + latches + others;
            for (int i = inputs; i < inputs + latches; i++) {
                if (random.nextInt(12) != 0) {
                    call("feed", i, random.nextInt(gates), random.nextBoolean());
                }
            }
            for (int outputs = random.nextInt(4); outputs > 0 && gates > 0; outputs--) {
                call("output", random.nextInt(gates), 0, false);
            }
            call("explore", 0, 0, false);
            askAll(gates, 1 << latches);
        }

        /** Latches that take one of two gates or the other reach many more states, over longer ways. */
        void wideNetThenAllQuestions() {
            int inputs = 1 + random.nextInt(2);
            int latches = 3 + random.nextInt(6);
            int gates = inputs + latches;
            for (int i = 0; i < gates; i++) {
                call("gate", i < inputs ? 0 : 1, 0, false);
            }
            for (int latch = inputs; latch < inputs + latches; latch++) {
                int a = random.nextInt(gates);
                int b = random.nextInt(4) == 0 ? random.nextInt(inputs) : random.nextInt(gates);
                for (int i = 0; i < 3; i++) {
                    call("gate", 2, 0, false);
                    call("feed", gates + i, i < 2 ? a : gates, i > 0);
                    call("feed", gates + i, i < 2 ? b : gates + 1, i > 0);
                }
                call("feed", latch, gates + 2, random.nextInt(5) == 0);
                gates += 3;
            }
            if (random.nextInt(3) == 0) {
                call("gate", 2 + random.nextInt(2), 0, false);
                call("feed", gates, gates, random.nextBoolean());
                for (int i = 0; i < 4; i++) {
                    call("feed", gates, random.nextInt(gates), random.nextBoolean());
                }
                gates++;
            }
            for (int outputs = random.nextInt(3); outputs > 0; outputs--) {
                call("output", random.nextInt(gates), 0, false);
            }
            call("explore", 0, 0, false);
            askAll(gates, 1 << latches);
        }

        private void askAll(int gates, int states) {
            for (int state = -1; state <= states; state++) {
                call("distance", state, 0, false);
                call("group", state, 0, false);
                for (int i = -1; i < 9; i++) {
                    call("way", state, i, false);
                }
                for (int choice = -1; choice <= 16; choice++) {
                    call("next", state, choice, false);
                }
            }
            for (int number = -1; number <= 20; number++) {
                call("many", number, 0, false);
                call("doubt", number, 0, false);
                call("count", number, 0, false);
            }
            for (int gate = -1; gate <= gates; gate++) {
                call("always", gate, 0, false);
                for (int other = -1; other <= gates; other++) {
                    call("isSame", gate, other, false);
                }
            }
        }

        private void call(String name, int a, int b, boolean flag) {
            calls++;
            String got = Checks.answerOf(() -> askExplorer(name, a, b, flag));
            String due = Checks.answerOf(() -> askModel(name, a, b, flag));
            Checks.same("run " + seed + ", call " + calls + ", " + name + "(" + a + ", " + b + ", " + flag + ")",
                    got, due);
        }

        private long askExplorer(String name, int a, int b, boolean flag) {
            return switch (name) {
                case "gate" -> explorer.gate(a);
                case "feed" -> explorer.feed(a, b, flag);
                case "output" -> explorer.output(a);
                case "clear" -> explorer.clear();
                case "explore" -> explorer.explore();
                case "distance" -> explorer.distance(a);
                case "way" -> explorer.way(a, b);
                case "many" -> explorer.many(a);
                case "next" -> explorer.next(a, b);
                case "doubt" -> explorer.doubt(a);
                case "always" -> explorer.always(a);
                case "isSame" -> explorer.isSame(a, b) ? 1 : 0;
                case "group" -> explorer.group(a);
                default -> explorer.count(a);
            };
        }

        private long askModel(String name, int a, int b, boolean flag) {
            return switch (name) {
                case "gate" -> model.gate(a);
                case "feed" -> model.feed(a, b, flag);
                case "output" -> model.output(a);
                case "clear" -> model.clear();
                case "explore" -> model.explore();
                case "distance" -> model.distance(a);
                case "way" -> model.way(a, b);
                case "many" -> model.many(a);
                case "next" -> model.next(a, b);
                case "doubt" -> model.doubt(a);
                case "always" -> model.always(a);
                case "isSame" -> model.isSame(a, b) ? 1 : 0;
                case "group" -> model.group(a);
                default -> model.count(a);
            };
        }
    }

    private record Feed(int to, int from, boolean negated) {
    }

    /** The document's words, one pair of a state and a choice at a time. */
    private static final class Model {
        final List<Integer> sorts = new ArrayList<>();
        private final List<Feed> feeds = new ArrayList<>();
        private final List<Integer> outputs = new ArrayList<>();
        private boolean explored = false;
        // For each state and choice the gates' values, null where the net does not settle.
        private final Map<Integer, int[]> settled = new HashMap<>();
        // The least way to each reached state.
        private final Map<Integer, List<Integer>> ways = new HashMap<>();
        // The gates' values in all reached states with all choices with which the net settles.
        private final List<int[]> allSettled = new ArrayList<>();
        private boolean[][] apart = new boolean[0][0];

        int latches() {
            return ofSort(1);
        }

        private int ofSort(int sort) {
            int found = 0;
            for (int one : sorts) {
                found += one == sort ? 1 : 0;
            }
            return found;
        }

        int gate(int sort) {
            if (sort < 0 || sort > 3) {
                throw new IllegalArgumentException();
            }
            if (sorts.size() == 60 || sort == 0 && ofSort(0) == 4 || sort == 1 && ofSort(1) == 8) {
                return NONE;
            }
            explored = false;
            sorts.add(sort);
            return sorts.size() - 1;
        }

        private int feedsOf(int gate) {
            return (int) feeds.stream().filter(f -> f.to() == gate).count();
        }

        int feed(int to, int from, boolean negated) {
            gateThere(to);
            gateThere(from);
            if (sorts.get(to) == 0 || sorts.get(to) == 1 && feedsOf(to) > 0) {
                throw new IllegalStateException();
            }
            if (feeds.size() == 240) {
                return NONE;
            }
            explored = false;
            feeds.add(new Feed(to, from, negated));
            return feedsOf(to);
        }

        int output(int gate) {
            gateThere(gate);
            if (outputs.size() == 6) {
                return NONE;
            }
            explored = false;
            outputs.add(gate);
            return outputs.size();
        }

        int clear() {
            int before = sorts.size();
            sorts.clear();
            feeds.clear();
            outputs.clear();
            explored = false;
            return before;
        }

        private void gateThere(int gate) {
            if (gate < 0 || gate >= sorts.size()) {
                throw new IndexOutOfBoundsException();
            }
        }

        private void stateThere(int state) {
            if (state < 0 || state >= 1 << latches()) {
                throw new IndexOutOfBoundsException();
            }
        }

        private void somethingExplored() {
            if (!explored) {
                throw new IllegalStateException();
            }
        }

        private int choices() {
            return 1 << ofSort(0);
        }

        private int[] settle(int state, int choice) {
            int[] values = new int[sorts.size()];
            int input = 0;
            int latch = 0;
            for (int gate = 0; gate < values.length; gate++) {
                values[gate] = switch (sorts.get(gate)) {
                    case 0 -> choice >> input++ & 1;
                    case 1 -> state >> latch++ & 1;
                    default -> NONE;
                };
            }
            boolean again = true;
            while (again) {
                again = false;
                for (int gate = 0; gate < values.length; gate++) {
                    if (values[gate] == NONE) {
                        values[gate] = learn(gate, values);
                        again |= values[gate] != NONE;
                    }
                }
            }
            for (int value : values) {
                if (value == NONE) {
                    return null;
                }
            }
            return values;
        }

        private int learn(int gate, int[] values) {
            int strong = sorts.get(gate) == 2 ? 0 : 1;
            boolean allKnown = true;
            for (Feed feed : feeds) {
                if (feed.to() == gate) {
                    int value = values[feed.from()];
                    if (value == NONE) {
                        allKnown = false;
                    } else if ((feed.negated() ? 1 - value : value) == strong) {
                        return strong;
                    }
                }
            }
            return allKnown ? 1 - strong : NONE;
        }

        private int[] valuesAt(int state, int choice) {
            return settled.get(state * 16 + choice);
        }

        private int nextOf(int state, int choice) {
            int[] values = valuesAt(state, choice);
            if (values == null) {
                return NONE;
            }
            int next = 0;
            int latch = 0;
            for (int gate = 0; gate < values.length; gate++) {
                if (sorts.get(gate) == 1) {
                    int value = values[gate];
                    for (Feed feed : feeds) {
                        if (feed.to() == gate) {
                            value = feed.negated() ? 1 - values[feed.from()] : values[feed.from()];
                        }
                    }
                    next |= value << latch++;
                }
            }
            return next;
        }

        int explore() {
            settled.clear();
            for (int state = 0; state < 1 << latches(); state++) {
                for (int choice = 0; choice < choices(); choice++) {
                    settled.put(state * 16 + choice, settle(state, choice));
                }
            }
            findWays();
            findAllSettled();
            tellApart();
            explored = true;
            return ways.size();
        }

        /** Every way is tried against the one that is known, till none is shorter or less. */
        private void findWays() {
            ways.clear();
            ways.put(0, new ArrayList<>());
            boolean again = true;
            while (again) {
                again = false;
                for (int state : new ArrayList<>(ways.keySet())) {
                    for (int choice = 0; choice < choices(); choice++) {
                        int next = nextOf(state, choice);
                        List<Integer> way = new ArrayList<>(ways.get(state));
                        way.add(choice);
                        if (next != NONE && (!ways.containsKey(next) || isLess(way, ways.get(next)))) {
                            ways.put(next, way);
                            again = true;
                        }
                    }
                }
            }
        }

        private static boolean isLess(List<Integer> way, List<Integer> other) {
            if (way.size() != other.size()) {
                return way.size() < other.size();
            }
            for (int i = 0; i < way.size(); i++) {
                if (!way.get(i).equals(other.get(i))) {
                    return way.get(i) < other.get(i);
                }
            }
            return false;
        }

        private void tellApart() {
            int states = 1 << latches();
            int[][] next = new int[states][choices()];
            for (int state = 0; state < states; state++) {
                for (int choice = 0; choice < choices(); choice++) {
                    next[state][choice] = nextOf(state, choice);
                }
            }
            apart = new boolean[states][states];
            boolean again = true;
            while (again) {
                again = false;
                for (int a : ways.keySet()) {
                    for (int b : ways.keySet()) {
                        if (!apart[a][b] && isToldApart(a, b, next)) {
                            apart[a][b] = true;
                            again = true;
                        }
                    }
                }
            }
        }

        private boolean isToldApart(int a, int b, int[][] next) {
            for (int choice = 0; choice < choices(); choice++) {
                int[] ofA = valuesAt(a, choice);
                int[] ofB = valuesAt(b, choice);
                if ((ofA == null) != (ofB == null)) {
                    return true;
                }
                if (ofA != null) {
                    if (outputs.stream().anyMatch(gate -> ofA[gate] != ofB[gate])
                            || apart[next[a][choice]][next[b][choice]]) {
                        return true;
                    }
                }
            }
            return false;
        }

        private int distanceOf(int state) {
            return ways.containsKey(state) ? ways.get(state).size() : NONE;
        }

        int distance(int state) {
            somethingExplored();
            stateThere(state);
            return distanceOf(state);
        }

        int way(int state, int i) {
            somethingExplored();
            stateThere(state);
            if (i < 0) {
                throw new IndexOutOfBoundsException();
            }
            return i < distanceOf(state) ? ways.get(state).get(i) : NONE;
        }

        int many(int distance) {
            somethingExplored();
            return (int) ways.values().stream().filter(way -> way.size() == distance).count();
        }

        int next(int state, int choice) {
            somethingExplored();
            stateThere(state);
            if (choice < 0 || choice > 15) {
                throw new IndexOutOfBoundsException();
            }
            return nextOf(state, choice % choices());
        }

        int doubt(int what) {
            somethingExplored();
            if (what < 0 || what > 2) {
                throw new IndexOutOfBoundsException();
            }
            int states = 1 << latches();
            for (int distance = 0; distance < states; distance++) {
                for (int state = 0; state < states; state++) {
                    for (int choice = 0; choice < choices() && distanceOf(state) == distance; choice++) {
                        if (valuesAt(state, choice) == null) {
                            return what == 0 ? distance : what == 1 ? state : choice;
                        }
                    }
                }
            }
            return NONE;
        }

        private void findAllSettled() {
            allSettled.clear();
            for (int state : ways.keySet()) {
                for (int choice = 0; choice < choices(); choice++) {
                    if (valuesAt(state, choice) != null) {
                        allSettled.add(valuesAt(state, choice));
                    }
                }
            }
        }

        int always(int gate) {
            somethingExplored();
            gateThere(gate);
            for (int value = 0; value <= 1; value++) {
                int due = value;
                if (!allSettled.isEmpty() && allSettled.stream().allMatch(values -> values[gate] == due)) {
                    return value;
                }
            }
            return 2;
        }

        boolean isSame(int gate, int other) {
            somethingExplored();
            gateThere(gate);
            gateThere(other);
            return allSettled.stream().allMatch(values -> values[gate] == values[other]);
        }

        private int groupOf(int state) {
            int least = 0;
            while (!ways.containsKey(least) || apart[least][state]) {
                least++;
            }
            return least;
        }

        int group(int state) {
            somethingExplored();
            stateThere(state);
            return ways.containsKey(state) ? groupOf(state) : NONE;
        }

        int count(int what) {
            return switch (what) {
                case 0 -> sorts.size();
                case 1 -> feeds.size();
                case 2 -> ofSort(0);
                case 3 -> latches();
                case 4 -> outputs.size();
                case 5 -> explored ? 1 : 0;
                case 6, 7, 8, 9 -> explored ? countExplored(what) : 0;
                default -> NONE;
            };
        }

        private int countExplored(int what) {
            return switch (what) {
                case 6 -> ways.size();
                case 7 -> ways.values().stream().mapToInt(List::size).max().getAsInt();
                case 8 -> (int) ways.keySet().stream().mapToInt(this::groupOf).distinct().count();
                default -> ways.size() * choices() - allSettled.size();
            };
        }
    }
}
