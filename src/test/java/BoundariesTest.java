/**
 * The sentences of the document that name a boundary case, each with a test of its own; the comment
 * before a test has the sentence. What is due in the middle of the field stands in PromisesTest.
 */
public final class BoundariesTest {
    private static final int INPUT = 0;
    private static final int LATCH = 1;
    private static final int AND = 2;
    private static final int OR = 3;
    private static final int NONE = StateExplorer.NONE;
    private static final int LEAST = Integer.MIN_VALUE;
    private static final int GREATEST = Integer.MAX_VALUE;
    private static final Class<IllegalArgumentException> ARGUMENT = IllegalArgumentException.class;
    private static final Class<IndexOutOfBoundsException> INDEX = IndexOutOfBoundsException.class;
    private static final Class<IllegalStateException> STATE = IllegalStateException.class;

    public static void main(String[] args) {
        terms();
        building();
        exploring();
        asking();
        counting();
        Checks.finish();
    }

    private static void terms() {
        numberedAsTheyCome();
        gatesFeedThemselves();
        knownWhenOneFeedDecides();
        withoutAnyFeed();
        latchWithoutFeedStays();
        knownAgainAndAgain();
        zerosGoOn();
        zerosAndOnesByTurns();
        onlyChoicesWithWhichItSettles();
        shortestStepsCount();
        changesForget();
        refusedCallsForgetNothing();
        nothingExploredComesFirst();
        fiveHundredAndTwelveCalls();
    }

    private static void building() {
        newObjectHasNoGates();
        sixtyGates();
        fourInputs();
        eightLatches();
        refusedGateTakesNoNumber();
        sortsAreZeroToThree();
        newGateHasNoFeeds();
        feedsInAll();
        refusedFeedIsNotTaken();
        feedOfMissingGates();
        feedOfInputsAndFedLatches();
        sixOutputs();
        refusedOutputIsNotLookedAt();
        outputOfMissingGates();
        clearOfNothing();
        clearOfFullNet();
    }

    private static void exploring() {
        exploreWithoutGates();
        exploreWithoutSettling();
        exploreAllStates();
        exploreTwice();
    }

    private static void asking() {
        distanceOfFirstState();
        distanceOfMissingStates();
        wayOfNoSteps();
        wayOfManySteps();
        wayWithAllInputs();
        wayOfMissingStepsAndStates();
        manyAtEachEnd();
        nextOfLastStateAndChoice();
        nextPassesOverBits();
        nextOfMissingNumbers();
        nextWithoutSettling();
        doubtWithoutAny();
        doubtOfLeastDistance();
        doubtOfLeastChoiceThere();
        doubtOfMissingNumbers();
        alwaysInOnePairOnly();
        alwaysWithoutAnySuch();
        alwaysOfMissingGates();
        isSameInOnePairOnly();
        isSameOfMissingGates();
        groupIsCalledByLeastReached();
        groupByOneChoice();
        groupBySettlingWithOneChoice();
        groupByLastOutput();
        groupsAnew();
        groupOfMissingStates();
    }

    private static void counting() {
        countOfMissingNumbers();
        countOfNothingExplored();
        countOfNothingBuilt();
        countOfFullNet();
        countOfPairs();
    }

    /** 8 latches, gates 0 to 7, that count up with input 0, gate 8; then 3 more inputs. */
    private static StateExplorer fullCounter() {
        StateExplorer x = Nets.counter(8);
        for (int i = 0; i < 3; i++) {
            x.gate(INPUT);
        }
        return x;
    }

    /** A gate that is 1 in one state of fullCounter, the first or last, with one choice alone. */
    private static int onlyAtTheEnd(StateExplorer x, boolean first) {
        int gate = x.gate(AND);
        for (int latch = 0; latch < 8; latch++) {
            x.feed(gate, latch, first);
        }
        x.feed(gate, 8, first);
        for (int input = 33; input < 36; input++) {
            x.feed(gate, input, first);
        }
        return gate;
    }

    /** 60 gates, 4 inputs, 8 latches, 240 feeds, 6 outputs: 306 calls. */
    private static StateExplorer fullNet() {
        StateExplorer x = new StateExplorer();
        for (int i = 0; i < 60; i++) {
            x.gate(i < 4 ? INPUT : i < 12 ? LATCH : OR);
        }
        for (int i = 0; i < 240; i++) {
            x.feed(i < 8 ? 4 + i : 59, i % 4, false);
        }
        for (int i = 0; i < 6; i++) {
            x.output(59);
        }
        return x;
    }

    // "Inputs and latches are numbered each, 0, 1, .., as they come."
    private static void numberedAsTheyCome() {
        StateExplorer x = Nets.of(LATCH, INPUT, OR, LATCH, INPUT, LATCH);
        x.feed(0, 4, false);
        x.feed(3, 1, false);
        x.feed(5, 0, false);
        x.explore();
        Checks.same("input 0 is gate 1, latch 1 is gate 3", x.next(0, 1), 2);
        Checks.same("input 1 is gate 4, latch 0 is gate 0", x.next(0, 2), 1);
        Checks.same("latch 2 is gate 5", x.next(1, 0), 4);
    }

    // "Gates have FEEDS, other gates or themselves, each taken as it is or NEGATED"
    private static void gatesFeedThemselves() {
        StateExplorer x = Nets.of(LATCH, LATCH, AND, OR);
        Checks.same("a latch takes itself", x.feed(0, 0, false), 1);
        Checks.same("a latch takes itself negated", x.feed(1, 1, true), 1);
        Checks.same("an and takes itself", x.feed(2, 2, false), 1);
        Checks.same("an or takes itself negated", x.feed(3, 3, true), 1);
        x.feed(2, 0, false);
        x.feed(3, 0, true);
        Checks.same("latches that take themselves", x.explore(), 2);
        Checks.same("it changes by turns", x.next(2, 0), 0);
        Checks.same("ands and ors that take themselves settle with 0 of the latch", x.count(9), 0);
        Checks.same("and not with 1", x.next(1, 0), NONE);
    }

    // "an and is 0 if a feed (as it is taken) is 0 ..; an or is 1 if one is 1"
    private static void knownWhenOneFeedDecides() {
        StateExplorer x = Nets.of(AND, OR, INPUT);
        x.feed(0, 0, true);
        x.feed(1, 1, true);
        x.feed(0, 2, true);
        x.feed(1, 2, false);
        x.explore();
        Checks.same("with 1 both are known", x.next(0, 1), 0);
        Checks.same("with 0 none is known", x.next(0, 0), NONE);
        Checks.same("the and is 0", x.always(0), 0);
        Checks.same("the or is 1", x.always(1), 1);
    }

    // "1 if all are 1 (also without any)", "0 if all are 0"
    private static void withoutAnyFeed() {
        StateExplorer x = Nets.explored(AND, OR);
        Checks.same("an and without any feed", x.always(0), 1);
        Checks.same("an or without any feed", x.always(1), 0);
        Checks.same("they are known", x.count(9), 0);
        x.feed(0, 1, true);
        x.feed(1, 0, true);
        x.explore();
        Checks.same("each by the other: not known", x.count(9), 1);
    }

    // "a latch at most one (its NEXT value; one without it stays as it is)"
    private static void latchWithoutFeedStays() {
        StateExplorer x = new StateExplorer();
        for (int i = 0; i < 8; i++) {
            x.gate(LATCH);
        }
        Checks.same("only state 0", x.explore(), 1);
        for (int state = 0; state < 256; state++) {
            Checks.same("state " + state + " stays", x.next(state, 0), state);
        }
    }

    // "become known so by what is known, again and again, till nothing more does"
    private static void knownAgainAndAgain() {
        for (int step = -1; step <= 1; step += 2) {
            StateExplorer x = new StateExplorer();
            for (int i = 0; i < 60; i++) {
                x.gate(AND);
            }
            int end = step > 0 ? 59 : 0;
            for (int gate = 59 - end; gate != end; gate += step) {
                x.feed(gate, gate + step, true);
            }
            x.explore();
            Checks.same("60 gates, one behind the other", x.count(9), 0);
            Checks.same("the last is 1", x.always(end), 1);
            Checks.same("the first, 59 behind, is 0", x.always(59 - end), 0);
        }
    }

    // "till nothing more does": gate 2 is 0 with some choices at once, with others by gate 3 alone,
    // which is never known to be 1
    private static void zerosGoOn() {
        StateExplorer x = Nets.of(INPUT, INPUT, AND, AND);
        x.feed(2, 0, false);
        x.feed(2, 3, false);
        x.feed(3, 1, false);
        x.feed(3, 3, false);
        x.explore();
        for (int choice = 0; choice < 4; choice++) {
            Checks.same("settles by input 1, choice " + choice, x.next(0, choice), choice < 2 ? 0 : NONE);
        }
    }

    // The same: a ring in which 0 and 1 go on by turns, each choice stopping somewhere else; only 5
    // lets each gate wait for the next one.
    private static void zerosAndOnesByTurns() {
        StateExplorer x = Nets.of(INPUT, INPUT, INPUT, INPUT, AND, OR, AND, OR);
        for (int i = 0; i < 4; i++) {
            x.feed(4 + i, i, false);
            x.feed(4 + i, 4 + (i + 1) % 4, i == 3);
        }
        x.explore();
        for (int choice = 0; choice < 16; choice++) {
            Checks.same("the ring with choice " + choice, x.next(0, choice), choice == 5 ? NONE : 0);
        }
    }

    // "the next states of reached ones, with every choice with which the net settles there"
    private static void onlyChoicesWithWhichItSettles() {
        StateExplorer x = Nets.of(INPUT, LATCH, AND);
        x.feed(1, 0, false);
        x.feed(2, 2, false);
        x.feed(2, 0, false);
        Checks.same("choice 1 leads nowhere", x.explore(), 1);
        Checks.same("state 1 is not reached", x.distance(1), NONE);
        Checks.same("it would be the next one", x.next(0, 1), NONE);
        StateExplorer all = Nets.of(INPUT, INPUT, INPUT, INPUT, LATCH);
        all.feed(4, last(all), false);
        Checks.same("choice 15 leads somewhere", all.explore(), 2);
    }

    /** An and of all four inputs, gates 0 to 3. */
    private static int last(StateExplorer x) {
        int gate = x.gate(AND);
        for (int input = 0; input < 4; input++) {
            x.feed(gate, input, false);
        }
        return gate;
    }

    // "the DISTANCE being the least number of such steps"
    private static void shortestStepsCount() {
        StateExplorer x = Nets.of(INPUT, LATCH, LATCH);
        int up = Nets.and(x, 1, false, 2, true);
        int direct = Nets.and(x, 0, false, 2, true);
        int to2 = x.gate(OR);
        x.feed(to2, up, false);
        x.feed(to2, direct, false);
        x.feed(2, to2, false);
        x.feed(1, 0, true);
        x.explore();
        Checks.same("state 2 in one step, not in two", x.distance(2), 1);
        Checks.same("state 1 in one step", x.distance(1), 1);
        Checks.same("state 3 in two steps", x.distance(3), 2);
    }

    // "Whatever changes the net or its outputs forgets what was explored."
    private static void changesForget() {
        StateExplorer x = Nets.explored(LATCH, AND);
        x.gate(OR);
        nothingIsExplored("after gate", x);
        x.explore();
        x.feed(0, 1, false);
        nothingIsExplored("after feed", x);
        x.explore();
        x.output(1);
        nothingIsExplored("after output", x);
        x.explore();
        x.clear();
        nothingIsExplored("after clear", x);
    }

    // "Questions of what is explored throw IllegalStateException when nothing is; else
    // IndexOutOfBoundsException"
    private static void nothingExploredComesFirst() {
        nothingIsExplored("a new object", new StateExplorer());
        nothingIsExplored("a full net", fullNet());
    }

    private static void nothingIsExplored(String when, StateExplorer x) {
        for (int number : new int[] {LEAST, -1, 0, 1, 16, 60, 256, GREATEST}) {
            Checks.thrown(when + ": distance", STATE, () -> x.distance(number));
            Checks.thrown(when + ": way", STATE, () -> x.way(number, 0));
            Checks.thrown(when + ": way, i", STATE, () -> x.way(0, number));
            Checks.thrown(when + ": many", STATE, () -> x.many(number));
            Checks.thrown(when + ": next", STATE, () -> x.next(number, 0));
            Checks.thrown(when + ": next, choice", STATE, () -> x.next(0, number));
            Checks.thrown(when + ": doubt", STATE, () -> x.doubt(number));
            Checks.thrown(when + ": always", STATE, () -> x.always(number));
            Checks.thrown(when + ": isSame", STATE, () -> x.isSame(number, 0) ? 1 : 0);
            Checks.thrown(when + ": isSame, other", STATE, () -> x.isSame(0, number) ? 1 : 0);
            Checks.thrown(when + ": group", STATE, () -> x.group(number));
        }
        for (int what = 5; what <= 9; what++) {
            Checks.same(when + ": count(" + what + ")", x.count(what), 0);
        }
    }

    // The same sentence the other way round: what changes nothing forgets nothing.
    private static void refusedCallsForgetNothing() {
        StateExplorer x = fullNet();
        int states = x.explore();
        for (int sort = INPUT; sort <= OR; sort++) {
            Checks.same("gate is refused", x.gate(sort), NONE);
        }
        Checks.thrown("gate of no sort", ARGUMENT, () -> x.gate(4));
        Checks.same("feed is refused", x.feed(59, 0, false), NONE);
        Checks.thrown("feed of an input", STATE, () -> x.feed(0, 0, false));
        Checks.thrown("feed of a latch with a feed", STATE, () -> x.feed(4, 0, false));
        Checks.thrown("feed to no gate", INDEX, () -> x.feed(60, 0, false));
        Checks.thrown("feed from no gate", INDEX, () -> x.feed(59, 60, false));
        Checks.same("output is refused", x.output(0), NONE);
        Checks.thrown("output of no gate", INDEX, () -> x.output(60));
        Checks.thrown("distance of no state", INDEX, () -> x.distance(256));
        Checks.same("it is still explored", x.count(5), 1);
        Checks.same("with the same states", x.count(6), states);
        Checks.same("and distances", x.distance(0), 0);
    }

    // "An object is used for at most 512 calls after it has been made"
    private static void fiveHundredAndTwelveCalls() {
        StateExplorer x = new StateExplorer();
        for (int i = 0; i < 256; i++) {
            Checks.same("a call of 512", x.gate(LATCH), 0);
            Checks.same("a call of 512", x.clear(), 1);
        }
        StateExplorer full = fullNet();
        full.explore();
        for (int call = 308; call <= 512; call++) {
            Checks.same("call " + call, full.distance(call % 2 == 0 ? 0 : 255), call % 2);
        }
    }

    // "No gates."
    private static void newObjectHasNoGates() {
        StateExplorer x = new StateExplorer();
        Checks.thrown("output(0)", INDEX, () -> x.output(0));
        Checks.thrown("feed(0, 0)", INDEX, () -> x.feed(0, 0, false));
        x.explore();
        Checks.thrown("always(0)", INDEX, () -> x.always(0));
        Checks.thrown("isSame(0, 0)", INDEX, () -> x.isSame(0, 0) ? 1 : 0);
    }

    // "NONE when there are 60"
    private static void sixtyGates() {
        StateExplorer x = new StateExplorer();
        for (int i = 0; i < 60; i++) {
            Checks.same("gate " + i, x.gate(i % 2 == 0 ? AND : OR), i);
        }
        for (int sort = INPUT; sort <= OR; sort++) {
            Checks.same("gate 60 of sort " + sort, x.gate(sort), NONE);
        }
        Checks.same("60 gates", x.count(0), 60);
        Checks.same("no input", x.count(2), 0);
        Checks.same("no latch", x.count(3), 0);
        Checks.same("the last one is there", x.output(59), 1);
        Checks.thrown("and none behind it", INDEX, () -> x.output(60));
    }

    // "or 4 inputs .. and this is one"
    private static void fourInputs() {
        StateExplorer x = Nets.of(INPUT, INPUT, INPUT, INPUT);
        Checks.same("a fifth input", x.gate(INPUT), NONE);
        Checks.same("a latch beside 4 inputs", x.gate(LATCH), 4);
        Checks.same("an and beside 4 inputs", x.gate(AND), 5);
        Checks.same("an or beside 4 inputs", x.gate(OR), 6);
        Checks.same("4 inputs", x.count(2), 4);
    }

    // "8 latches and this is one"
    private static void eightLatches() {
        StateExplorer x = Nets.of(LATCH, LATCH, LATCH, LATCH, LATCH, LATCH, LATCH, LATCH);
        Checks.same("a ninth latch", x.gate(LATCH), NONE);
        Checks.same("an input beside 8 latches", x.gate(INPUT), 8);
        Checks.same("an and beside 8 latches", x.gate(AND), 9);
        Checks.same("an or beside 8 latches", x.gate(OR), 10);
        Checks.same("8 latches", x.count(3), 8);
    }

    // "A new gate ..: its number; NONE .."
    private static void refusedGateTakesNoNumber() {
        StateExplorer x = Nets.of(INPUT, INPUT, INPUT, INPUT);
        x.gate(INPUT);
        Checks.thrown("no sort", ARGUMENT, () -> x.gate(-1));
        Checks.same("the next number", x.gate(AND), 4);
        Checks.same("the gates", x.count(0), 5);
    }

    // "IllegalArgumentException when sort is not 0 .. 3."
    private static void sortsAreZeroToThree() {
        StateExplorer empty = new StateExplorer();
        StateExplorer full = fullNet();
        for (int sort : new int[] {LEAST, -2, -1, 4, 5, GREATEST}) {
            Checks.thrown("sort " + sort, ARGUMENT, () -> empty.gate(sort));
            Checks.thrown("sort " + sort + " comes before NONE", ARGUMENT, () -> full.gate(sort));
        }
        Checks.same("no gate came of it", empty.count(0), 0);
        Checks.same("sort 0", empty.gate(0), 0);
        Checks.same("sort 3", empty.gate(3), 1);
    }

    // "A new gate without feeds"
    private static void newGateHasNoFeeds() {
        StateExplorer x = Nets.of(AND, OR);
        x.feed(1, 0, false);
        x.feed(0, 1, false);
        x.clear();
        x.gate(AND);
        x.gate(OR);
        x.explore();
        Checks.same("the and has none", x.always(0), 1);
        Checks.same("the or has none", x.always(1), 0);
        Checks.same("none are counted", x.count(1), 0);
        Checks.same("the first one is the first", x.feed(1, 0, false), 1);
    }

    // "how many feeds this has; NONE when there are 240 in all"
    private static void feedsInAll() {
        StateExplorer x = Nets.of(OR, LATCH, AND, LATCH);
        Checks.same("one of the latch", x.feed(1, 0, false), 1);
        for (int i = 1; i <= 239; i++) {
            Checks.same("feed " + i + " of the and", x.feed(2, i % 4, i % 3 == 0), i);
        }
        Checks.same("240 in all", x.count(1), 240);
        Checks.same("one more of the and", x.feed(2, 0, false), NONE);
        Checks.same("one more of the or, that has none", x.feed(0, 2, true), NONE);
        Checks.same("one more of the latch that has none", x.feed(3, 0, false), NONE);
        Checks.same("240 still", x.count(1), 240);
        Checks.same("a gate may be added", x.gate(OR), 4);
        Checks.same("and takes none", x.feed(4, 0, false), NONE);
    }

    // The same: a feed that is refused does not work.
    private static void refusedFeedIsNotTaken() {
        StateExplorer x = Nets.of(AND, OR, LATCH);
        for (int i = 0; i < 240; i++) {
            x.feed(1, 0, true);
        }
        x.feed(1, 0, false);
        x.feed(0, 1, false);
        x.feed(2, 0, false);
        Checks.same("the latch stays", x.explore(), 1);
        Checks.same("the and without feeds is 1", x.always(0), 1);
        Checks.same("the or of 240 zeros is 0", x.always(1), 0);
    }

    // "IndexOutOfBoundsException when one of both is not there"
    private static void feedOfMissingGates() {
        StateExplorer x = Nets.of(INPUT, LATCH, AND);
        x.feed(1, 0, false);
        StateExplorer full = fullNet();
        for (int gate : new int[] {LEAST, -1, 60, GREATEST}) {
            Checks.thrown("from " + gate, INDEX, () -> x.feed(2, gate, false));
            Checks.thrown("to " + gate, INDEX, () -> x.feed(gate, 2, true));
            Checks.thrown("both " + gate, INDEX, () -> x.feed(gate, gate, true));
            Checks.thrown("to an input comes behind", INDEX, () -> x.feed(0, gate, false));
            Checks.thrown("to a latch with a feed comes behind", INDEX, () -> x.feed(1, gate, false));
            Checks.thrown("NONE comes behind, from", INDEX, () -> full.feed(59, gate, false));
            Checks.thrown("NONE comes behind, to", INDEX, () -> full.feed(gate, 59, false));
        }
        Checks.thrown("the first that is not there, to", INDEX, () -> x.feed(3, 0, false));
        Checks.thrown("the first that is not there, from", INDEX, () -> x.feed(2, 3, false));
        Checks.same("no feed came of it", x.count(1), 1);
    }

    // "else IllegalStateException when to is an input, or a latch with a feed"
    private static void feedOfInputsAndFedLatches() {
        StateExplorer x = Nets.of(INPUT, LATCH, LATCH);
        Checks.thrown("an input", STATE, () -> x.feed(0, 1, false));
        Checks.thrown("an input and itself", STATE, () -> x.feed(0, 0, true));
        Checks.same("a latch without a feed", x.feed(1, 0, false), 1);
        Checks.thrown("a latch with a feed", STATE, () -> x.feed(1, 0, false));
        Checks.thrown("and another", STATE, () -> x.feed(1, 2, true));
        Checks.same("another latch", x.feed(2, 1, false), 1);
        Checks.same("two feeds", x.count(1), 2);
        x.explore();
        Checks.same("the first feed counts", x.next(0, 1), 1);
        StateExplorer full = fullNet();
        Checks.thrown("an input comes before NONE", STATE, () -> full.feed(0, 59, false));
        Checks.thrown("a fed latch comes before NONE", STATE, () -> full.feed(11, 59, false));
    }

    // "how many there are; NONE when there are 6"
    private static void sixOutputs() {
        StateExplorer x = Nets.of(INPUT, LATCH, AND, OR, AND, OR, LATCH);
        for (int gate = 6; gate > 0; gate--) {
            Checks.same("output of gate " + gate, x.output(gate), 7 - gate);
        }
        for (int gate = 0; gate < 7; gate++) {
            Checks.same("a seventh output", x.output(gate), NONE);
        }
        Checks.same("6 outputs", x.count(4), 6);
    }

    // The same: an output that is refused tells nothing apart.
    private static void refusedOutputIsNotLookedAt() {
        StateExplorer x = Nets.of(INPUT, LATCH, AND);
        x.feed(1, 0, false);
        for (int i = 0; i < 6; i++) {
            x.output(2);
        }
        x.output(1);
        Checks.same("both states", x.explore(), 2);
        Checks.same("one group", x.count(8), 1);
    }

    // "IndexOutOfBoundsException when it is not there"
    private static void outputOfMissingGates() {
        StateExplorer x = Nets.of(OR);
        StateExplorer full = fullNet();
        for (int gate : new int[] {LEAST, -1, 60, GREATEST}) {
            Checks.thrown("output " + gate, INDEX, () -> x.output(gate));
            Checks.thrown("output " + gate + " comes before NONE", INDEX, () -> full.output(gate));
        }
        Checks.thrown("the first that is not there", INDEX, () -> x.output(1));
        Checks.same("no output came of it", x.count(4), 0);
    }

    // "No gates: how many there were."
    private static void clearOfNothing() {
        StateExplorer x = new StateExplorer();
        Checks.same("there were none", x.clear(), 0);
        Checks.same("again", x.clear(), 0);
        x.gate(OR);
        Checks.same("there was one", x.clear(), 1);
        Checks.thrown("it is gone", INDEX, () -> x.output(0));
    }

    // The same of a net that has all it can have.
    private static void clearOfFullNet() {
        StateExplorer x = fullNet();
        x.explore();
        Checks.same("there were 60", x.clear(), 60);
        for (int what = 0; what <= 9; what++) {
            Checks.same("count(" + what + ") is 0", x.count(what), 0);
        }
        Checks.same("one state again", x.explore(), 1);
        Checks.thrown("state 1 is none any more", INDEX, () -> x.distance(1));
        Checks.same("no settling is left over", x.next(0, 15), 0);
        for (int i = 0; i < 4; i++) {
            Checks.same("inputs may come", x.gate(INPUT), i);
        }
        for (int i = 4; i < 12; i++) {
            Checks.same("latches may come", x.gate(LATCH), i);
        }
        for (int i = 4; i < 12; i++) {
            Checks.same("feeds may come", x.feed(i, 0, false), 1);
        }
        Checks.same("outputs may come", x.output(0), 1);
        Checks.same("the new net", x.explore(), 2);
    }

    // "All states that are reached: how many."
    private static void exploreWithoutGates() {
        StateExplorer x = new StateExplorer();
        Checks.same("state 0 alone", x.explore(), 1);
        Checks.same("its distance", x.distance(0), 0);
        Checks.same("its group", x.group(0), 0);
        Checks.same("its next state", x.next(0, 0), 0);
        Checks.same("it is explored", x.count(5), 1);
        Checks.same("no doubt", x.doubt(0), NONE);
        Checks.same("without latches too", Nets.of(INPUT, INPUT, INPUT, INPUT).explore(), 1);
    }

    // "REACHED: state 0, its DISTANCE 0" also where the net settles with no choice
    private static void exploreWithoutSettling() {
        StateExplorer x = Nets.of(INPUT, LATCH, AND);
        x.feed(1, 0, false);
        x.feed(2, 2, true);
        Checks.same("state 0 alone", x.explore(), 1);
        Checks.same("its distance", x.distance(0), 0);
        Checks.same("its group", x.group(0), 0);
        Checks.same("many at distance 0", x.many(0), 1);
        Checks.same("many at distance 1", x.many(1), 0);
    }

    // "All states that are reached": all of 8 latches one by one, all of 4 in one step
    private static void exploreAllStates() {
        Checks.same("one by one", Nets.counter(8).explore(), 256);
        StateExplorer x = Nets.of(INPUT, INPUT, INPUT, INPUT, LATCH, LATCH, LATCH, LATCH);
        for (int i = 0; i < 4; i++) {
            x.feed(4 + i, i, true);
        }
        Checks.same("16 states with 16 choices", x.explore(), 16);
        Checks.same("all in one step", x.many(1), 15);
        Checks.same("the last one by choice 0", x.way(15, 0), 0);
    }

    // "All states that are reached: how many.", also when nothing has changed since
    private static void exploreTwice() {
        StateExplorer x = Nets.counter(3);
        Checks.same("explored", x.explore(), 8);
        Checks.same("explored again", x.explore(), 8);
        Checks.same("distances stand", x.distance(7), 7);
        Checks.same("pairs are not counted twice", x.count(9), 0);
        Checks.same("groups neither", x.count(8), 1);
    }

    // "state 0, its DISTANCE 0", also when steps lead back to it
    private static void distanceOfFirstState() {
        StateExplorer x = Nets.of(LATCH);
        x.feed(0, 0, true);
        x.explore();
        Checks.same("1 leads back to 0", x.next(1, 0), 0);
        Checks.same("state 0", x.distance(0), 0);
        Checks.same("state 1", x.distance(1), 1);
    }

    // "a state that is not 0 .. 2 to the number of latches, less 1"
    private static void distanceOfMissingStates() {
        for (int latches = 0; latches <= 8; latches++) {
            StateExplorer x = new StateExplorer();
            for (int i = 0; i < latches; i++) {
                x.gate(LATCH);
            }
            x.explore();
            int states = 1 << latches;
            Checks.same("the last state of " + latches, x.distance(states - 1), latches == 0 ? 0 : NONE);
            for (int state : new int[] {LEAST, -1, states, 256, GREATEST}) {
                Checks.thrown("distance " + state, INDEX, () -> x.distance(state));
                Checks.thrown("way " + state, INDEX, () -> x.way(state, 0));
                Checks.thrown("next " + state, INDEX, () -> x.next(state, 0));
                Checks.thrown("group " + state, INDEX, () -> x.group(state));
            }
        }
    }

    // "NONE when it has no such step, or is not reached": state 0 has none at all
    private static void wayOfNoSteps() {
        StateExplorer x = Nets.of(INPUT, LATCH, LATCH);
        x.feed(1, 0, false);
        x.explore();
        Checks.same("step 0 to state 0", x.way(0, 0), NONE);
        Checks.same("a far step to state 0", x.way(0, GREATEST), NONE);
        Checks.same("step 0 to a state that is not reached", x.way(3, 0), NONE);
        Checks.same("a far step to it", x.way(3, GREATEST), NONE);
    }

    // "Step i (from 0 on) of the least way": the longest way that a net has
    private static void wayOfManySteps() {
        StateExplorer x = Nets.counter(8);
        x.explore();
        for (int i = 0; i < 255; i++) {
            Checks.same("step " + i + " to 255", x.way(255, i), 1);
        }
        Checks.same("there are 255", x.way(255, 255), NONE);
        Checks.same("there is one to state 1", x.way(1, 1), NONE);
    }

    // "has the least first choice, of those the least second one": the choice 15 among 4 inputs
    private static void wayWithAllInputs() {
        StateExplorer x = Nets.of(INPUT, INPUT, INPUT, INPUT, LATCH, LATCH);
        x.feed(4, last(x), false);
        x.feed(5, Nets.and(x, 4, false, 3, false), false);
        x.explore();
        Checks.same("15 alone leads to 1", x.way(1, 0), 15);
        Checks.same("to 2 first 15", x.way(2, 0), 15);
        Checks.same("then 8, the least of 8 to 14", x.way(2, 1), 8);
        Checks.same("to 3 first 15", x.way(3, 0), 15);
        Checks.same("then 15", x.way(3, 1), 15);
        Checks.same("then nothing", x.way(3, 2), NONE);
    }

    // "IndexOutOfBoundsException for .. other numbers that are not as said. Exceptions come before
    // NONE."
    private static void wayOfMissingStepsAndStates() {
        StateExplorer x = Nets.of(INPUT, LATCH, LATCH);
        x.feed(1, 0, false);
        x.explore();
        for (int i : new int[] {LEAST, -1}) {
            Checks.thrown("step " + i, INDEX, () -> x.way(1, i));
            Checks.thrown("step " + i + " to state 0", INDEX, () -> x.way(0, i));
            Checks.thrown("step " + i + " to a state not reached", INDEX, () -> x.way(2, i));
        }
        Checks.thrown("a far step to no state", INDEX, () -> x.way(4, GREATEST));
    }

    // "How many states are reached at a distance (0 for any other number)."
    private static void manyAtEachEnd() {
        StateExplorer x = Nets.counter(8);
        x.gate(AND);
        x.explore();
        Checks.same("distance 0", x.many(0), 1);
        Checks.same("distance 255", x.many(255), 1);
        for (int distance : new int[] {LEAST, -2, -1, 256, GREATEST}) {
            Checks.same("distance " + distance, x.many(distance), 0);
        }
        StateExplorer still = Nets.explored(LATCH, LATCH);
        Checks.same("states that are not reached are at none", still.many(NONE), 0);
    }

    // "The next state of any one with a choice (0 .. 15 ..)"
    private static void nextOfLastStateAndChoice() {
        StateExplorer x = fullCounter();
        x.explore();
        Checks.same("from 255 with 15 it goes round to 0", x.next(255, 15), 0);
        Checks.same("from 255 with 14 it stays", x.next(255, 14), 255);
        Checks.same("from 127 to 128", x.next(127, 1), 128);
        Checks.same("from 0 with 15", x.next(0, 15), 1);
        StateExplorer still = Nets.of(INPUT, LATCH, LATCH);
        still.feed(1, 2, true);
        still.explore();
        Checks.same("of a state that is not reached", still.next(3, 0), 2);
    }

    // "bits of inputs that there are not are passed over"
    private static void nextPassesOverBits() {
        for (int inputs = 0; inputs <= 4; inputs++) {
            StateExplorer x = new StateExplorer();
            for (int i = 0; i < inputs; i++) {
                x.gate(INPUT);
            }
            for (int i = 0; i < 4; i++) {
                int latch = x.gate(LATCH);
                if (i < inputs) {
                    x.feed(latch, i, false);
                }
            }
            x.explore();
            for (int choice = 0; choice <= 15; choice++) {
                Checks.same(inputs + " inputs, choice " + choice, x.next(0, choice),
                        choice % (1 << inputs));
            }
        }
    }

    // "a choice (0 .. 15 ..)"; "Exceptions come before NONE."
    private static void nextOfMissingNumbers() {
        StateExplorer x = Nets.explored(INPUT, LATCH);
        StateExplorer never = Nets.of(LATCH, OR);
        never.feed(1, 1, false);
        never.explore();
        for (int choice : new int[] {LEAST, -1, 16, 17, GREATEST}) {
            Checks.thrown("choice " + choice, INDEX, () -> x.next(0, choice));
            Checks.thrown("before NONE, choice " + choice, INDEX, () -> never.next(0, choice));
            Checks.thrown("before NONE, state", INDEX, () -> never.next(choice, 0));
        }
    }

    // "NONE when the net does not settle"
    private static void nextWithoutSettling() {
        StateExplorer x = fullCounter();
        int end = onlyAtTheEnd(x, false);
        int loop = x.gate(AND);
        x.feed(loop, loop, false);
        x.feed(loop, end, false);
        x.explore();
        Checks.same("with 255 and 15", x.next(255, 15), NONE);
        Checks.same("with 255 and 7", x.next(255, 7), 0);
        Checks.same("with 254 and 15", x.next(254, 15), 255);
    }

    // "NONE without any"
    private static void doubtWithoutAny() {
        StateExplorer x = Nets.of(INPUT, LATCH, LATCH, AND);
        x.feed(3, 3, false);
        x.feed(3, 2, false);
        x.feed(1, 0, false);
        x.explore();
        Checks.same("a state not reached does not settle", x.next(2, 0), NONE);
        for (int what = 0; what <= 2; what++) {
            Checks.same("what is not reached is no doubt", x.doubt(what), NONE);
        }
    }

    // "what = 0 the least distance, 1 the least such state there": 0 goes to 2, that to 1
    private static void doubtOfLeastDistance() {
        StateExplorer x = Nets.of(INPUT, LATCH, LATCH);
        x.feed(1, 2, false);
        x.feed(2, Nets.and(x, 1, true, 2, true), false);
        int some = x.gate(OR);
        x.feed(some, 1, false);
        x.feed(some, 2, false);
        int loop = Nets.and(x, some, false, 0, false);
        x.feed(loop, loop, false);
        Checks.same("three states", x.explore(), 3);
        Checks.same("state 1 is the farther one", x.distance(1), 2);
        Checks.same("two doubts", x.count(9), 2);
        Checks.same("the least distance", x.doubt(0), 1);
        Checks.same("the state there", x.doubt(1), 2);
        Checks.same("the choice there", x.doubt(2), 1);
    }

    // "2 the least such choice there": state 1 has the choices 2 and 3, state 2 the choice 0
    private static void doubtOfLeastChoiceThere() {
        StateExplorer x = Nets.of(INPUT, INPUT, LATCH, LATCH);
        x.feed(2, Nets.and(x, 0, false, 1, true), false);
        x.feed(3, Nets.and(x, 1, false, 0, true), false);
        int loop = Nets.and(x, 2, false, 1, false);
        x.feed(loop, loop, false);
        int other = Nets.and(x, 0, true, 1, true);
        x.feed(other, 3, false);
        x.feed(other, other, true);
        Checks.same("three states", x.explore(), 3);
        Checks.same("both in one step", x.many(1), 2);
        Checks.same("three doubts", x.count(9), 3);
        Checks.same("the least distance", x.doubt(0), 1);
        Checks.same("the least state", x.doubt(1), 1);
        Checks.same("the least choice there", x.doubt(2), 2);
    }

    // "other numbers that are not as said": what is 0, 1 or 2
    private static void doubtOfMissingNumbers() {
        StateExplorer sure = Nets.explored(LATCH);
        StateExplorer never = Nets.of(OR);
        never.feed(0, 0, false);
        never.explore();
        for (int what : new int[] {LEAST, -1, 3, GREATEST}) {
            Checks.thrown("doubt " + what + " comes before NONE", INDEX, () -> sure.doubt(what));
            Checks.thrown("doubt " + what, INDEX, () -> never.doubt(what));
        }
        for (int what = 0; what <= 2; what++) {
            Checks.same("doubt " + what, never.doubt(what), 0);
        }
    }

    // "0, 1; 2 when it is both": in one pair of 4096 it is other than in the rest
    private static void alwaysInOnePairOnly() {
        StateExplorer x = fullCounter();
        int first = onlyAtTheEnd(x, true);
        int last = onlyAtTheEnd(x, false);
        int notLast = x.gate(OR);
        x.feed(notLast, last, true);
        int neither = Nets.and(x, first, false, last, false);
        int loop = Nets.and(x, last, false, 0, false);
        x.explore();
        Checks.same("1 with state 0 and choice 0 alone", x.always(first), 2);
        Checks.same("1 with state 255 and choice 15 alone", x.always(last), 2);
        Checks.same("0 there alone", x.always(notLast), 2);
        Checks.same("1 nowhere", x.always(neither), 0);
        x.feed(loop, loop, true);
        x.explore();
        Checks.same("where the net does not settle does not count", x.always(last), 0);
        Checks.same("nor for 1", x.always(notLast), 1);
    }

    // "or there is none such"
    private static void alwaysWithoutAnySuch() {
        StateExplorer x = Nets.of(INPUT, LATCH, AND, OR, AND);
        x.feed(4, 4, false);
        x.explore();
        for (int gate = 0; gate < 5; gate++) {
            Checks.same("gate " + gate + ", the net settles nowhere", x.always(gate), 2);
        }
    }

    // "a gate that is not there"
    private static void alwaysOfMissingGates() {
        StateExplorer x = Nets.explored(AND);
        StateExplorer full = fullNet();
        full.explore();
        Checks.same("the last of one", x.always(0), 1);
        Checks.same("the last of 60", full.always(59), 2);
        for (int gate : new int[] {LEAST, -1, 60, GREATEST}) {
            Checks.thrown("always " + gate + " of one", INDEX, () -> x.always(gate));
            Checks.thrown("always " + gate + " of 60", INDEX, () -> full.always(gate));
        }
        Checks.thrown("the first that is not there", INDEX, () -> x.always(1));
    }

    // "the same value in all of those"
    private static void isSameInOnePairOnly() {
        StateExplorer x = fullCounter();
        int first = onlyAtTheEnd(x, true);
        int last = onlyAtTheEnd(x, false);
        int zero = x.gate(OR);
        int loop = Nets.and(x, last, false, 0, false);
        x.explore();
        Checks.same("other with state 0 and choice 0", x.isSame(first, zero) ? 1 : 0, 0);
        Checks.same("other with state 255 and choice 15", x.isSame(last, zero) ? 1 : 0, 0);
        Checks.same("each and itself", x.isSame(last, last) ? 1 : 0, 1);
        x.feed(loop, loop, true);
        x.explore();
        Checks.same("where the net does not settle does not count", x.isSame(last, zero) ? 1 : 0, 1);
        StateExplorer never = Nets.of(AND, OR);
        never.feed(0, 0, false);
        never.explore();
        Checks.same("there is no such at all", never.isSame(0, 1) ? 1 : 0, 1);
    }

    // "a gate that is not there", one of both or both
    private static void isSameOfMissingGates() {
        StateExplorer x = Nets.explored(AND);
        for (int gate : new int[] {LEAST, -1, 1, 60, GREATEST}) {
            Checks.thrown("isSame(" + gate + ", 0)", INDEX, () -> x.isSame(gate, 0) ? 1 : 0);
            Checks.thrown("isSame(0, " + gate + ")", INDEX, () -> x.isSame(0, gate) ? 1 : 0);
            Checks.thrown("isSame, twice " + gate, INDEX, () -> x.isSame(gate, gate) ? 1 : 0);
        }
    }

    // "A GROUP are reached states ..; it is called by its least one"; "NONE when it is not reached"
    private static void groupIsCalledByLeastReached() {
        StateExplorer x = Nets.of(LATCH, LATCH);
        int some = x.gate(OR);
        x.feed(some, 0, false);
        x.feed(some, 1, false);
        x.output(some);
        x.feed(1, some, true);
        Checks.same("0 goes to 2, that to 0", x.explore(), 2);
        Checks.same("1 is like 2 but not reached", x.group(2), 2);
        Checks.same("so it has no group", x.group(1), NONE);
        x.feed(0, some, false);
        Checks.same("0 goes to 2, that to 1", x.explore(), 3);
        Checks.same("the farther, lesser one gives the name", x.group(2), 1);
        Checks.same("and bears it", x.group(1), 1);
        Checks.same("two groups", x.count(8), 2);
    }

    // "with some choice .. an output has another value": the first and the last choice
    private static void groupByOneChoice() {
        for (int negated = 0; negated <= 1; negated++) {
            StateExplorer x = Nets.of(INPUT, INPUT, INPUT, INPUT, LATCH, AND);
            for (int gate = 0; gate < 4; gate++) {
                x.feed(5, gate, negated == 1);
            }
            x.feed(5, 4, false);
            x.feed(4, 0, false);
            Checks.same("two states", x.explore(), 2);
            Checks.same("no output, one group", x.group(1), 0);
            x.output(5);
            x.explore();
            Checks.same("told apart by choice " + (negated == 1 ? 0 : 15), x.group(1), 1);
        }
    }

    // "with some choice the net settles in one and not in the other"
    private static void groupBySettlingWithOneChoice() {
        for (int negated = 0; negated <= 1; negated++) {
            StateExplorer x = Nets.of(INPUT, INPUT, INPUT, INPUT, LATCH, AND);
            for (int gate = 0; gate < 4; gate++) {
                x.feed(5, gate, negated == 1);
            }
            x.feed(5, 5, false);
            x.feed(4, 0, negated == 1);
            int only0 = negated == 1 ? 0 : 15;
            x.explore();
            Checks.same("both do not settle with choice " + only0, x.group(1), 0);
            Checks.same("that is two pairs", x.count(9), 2);
            x.feed(5, 4, false);
            x.explore();
            Checks.same("state 0 settles with choice " + only0, x.group(1), 1);
            Checks.same("that is one pair", x.count(9), 1);
        }
    }

    // "At most 6 gates are named as OUTPUTS": the sixth is looked at as the first
    private static void groupByLastOutput() {
        for (int place = 0; place < 6; place++) {
            StateExplorer x = Nets.of(INPUT, LATCH, AND);
            x.feed(1, 0, false);
            for (int i = 0; i < 6; i++) {
                x.output(i == place ? 1 : i % 2 == 0 ? 0 : 2);
            }
            x.explore();
            Checks.same("told apart by output " + place, x.group(1), 1);
        }
    }

    // "Whatever changes the net .. forgets what was explored": as many groups as there were before are
    // told apart by the outputs at first, and more by the next states then
    private static void groupsAnew() {
        StateExplorer x = Nets.counter(3);
        int seen = x.gate(AND);
        x.output(seen);
        x.feed(seen, 0, false);
        x.explore();
        Checks.same("even and odd states", x.count(8), 2);
        x.feed(seen, 1, false);
        x.feed(seen, 2, false);
        x.explore();
        Checks.same("only 7 is seen, but all are told apart", x.count(8), 8);
        for (int state = 0; state < 8; state++) {
            Checks.same("each is a group, " + state, x.group(state), state);
        }
    }

    // "a state that is not 0 .. 2 to the number of latches, less 1", of 8 latches
    private static void groupOfMissingStates() {
        StateExplorer x = Nets.counter(8);
        x.explore();
        Checks.same("the last state", x.group(255), 0);
        for (int state : new int[] {LEAST, -1, 256, GREATEST}) {
            Checks.thrown("group " + state, INDEX, () -> x.group(state));
        }
    }

    // "NONE for others"
    private static void countOfMissingNumbers() {
        StateExplorer empty = new StateExplorer();
        StateExplorer full = fullNet();
        full.explore();
        for (int what : new int[] {LEAST, -2, -1, 10, 11, GREATEST}) {
            Checks.same("count " + what, empty.count(what), NONE);
            Checks.same("count " + what + " of a full net", full.count(what), NONE);
        }
    }

    // "(6 .. 9 are 0 when nothing is explored)"
    private static void countOfNothingExplored() {
        StateExplorer x = fullNet();
        for (int what = 5; what <= 9; what++) {
            Checks.same("count(" + what + ") before", x.count(what), 0);
        }
        x.clear();
        x.gate(OR);
        x.feed(0, 0, false);
        x.explore();
        Checks.same("a pair", x.count(9), 1);
        x.gate(INPUT);
        for (int what = 5; what <= 9; what++) {
            Checks.same("count(" + what + ") after a change", x.count(what), 0);
        }
    }

    // "5 whether something is explored (1 or 0)", also of no gates
    private static void countOfNothingBuilt() {
        StateExplorer x = new StateExplorer();
        x.explore();
        int[] due = {0, 0, 0, 0, 0, 1, 1, 0, 1, 0};
        for (int what = 0; what <= 9; what++) {
            Checks.same("count(" + what + ")", x.count(what), due[what]);
        }
    }

    // "what = 0 gates, 1 feeds, 2 inputs, 3 latches, 4 outputs ..; 6 states, 7 the greatest distance,
    // 8 groups", each at its limit
    private static void countOfFullNet() {
        StateExplorer x = fullNet();
        x.explore();
        int[] due = {60, 240, 4, 8, 6, 1, 16, 1, 1, 0};
        for (int what = 0; what <= 9; what++) {
            Checks.same("count(" + what + ")", x.count(what), due[what]);
        }
        StateExplorer far = Nets.counter(8);
        for (int latch = 0; latch < 6; latch++) {
            far.output(latch + 2);
        }
        far.explore();
        Checks.same("256 states", far.count(6), 256);
        Checks.same("the greatest distance", far.count(7), 255);
        Checks.same("256 groups", far.count(8), 256);
    }

    // "9 pairs of a reached state and a choice (0 .. 2 to the number of inputs, less 1)"
    private static void countOfPairs() {
        StateExplorer x = fullCounter();
        int loop = x.gate(OR);
        x.feed(loop, loop, false);
        x.feed(loop, 35, true);
        Checks.same("all states by half of the choices", x.explore(), 256);
        Checks.same("half of 4096 pairs", x.count(9), 2048);
        for (int inputs = 0; inputs <= 4; inputs++) {
            StateExplorer never = Nets.of(LATCH, LATCH, OR);
            never.feed(2, 2, true);
            for (int i = 0; i < inputs; i++) {
                never.gate(INPUT);
            }
            never.explore();
            Checks.same("state 0 with all choices of " + inputs, never.count(9), 1 << inputs);
        }
    }
}
