/** The promises one by one: ordinary inputs, the edges that the document names, wrong inputs. */
public final class PromisesTest {
    private static final int INPUT = 0;
    private static final int LATCH = 1;
    private static final int AND = 2;
    private static final int OR = 3;
    private static final int NONE = StateExplorer.NONE;
    private static final Class<IllegalArgumentException> ARGUMENT = IllegalArgumentException.class;
    private static final Class<IndexOutOfBoundsException> INDEX = IndexOutOfBoundsException.class;
    private static final Class<IllegalStateException> STATE = IllegalStateException.class;

    public static void main(String[] args) {
        promise1NewObject();
        promise2Gate();
        promise2GateLimits();
        promise3Feed();
        promise3FeedLimit();
        promise4Output();
        promise5Clear();
        promise6Explore();
        promise6Settling();
        promise6LongestChain();
        promise6Anew();
        promise7Distance();
        promise8Way();
        promise8WaySteps();
        promise9Many();
        promise10Next();
        promise11Doubt();
        promise11DoubtOrder();
        promise12Always();
        promise13IsSame();
        promise12And13InManyStates();
        promise14Group();
        promise14GroupByNext();
        promise14GroupBySettling();
        promise14GroupLongChain();
        promise15Count();
        questionsBeforeExploring();
        whatForgets();
        whatDoesNotForget();
        biggestNet();
        Checks.finish();
    }

    private static void promise1NewObject() {
        StateExplorer x = new StateExplorer();
        for (int what = 0; what <= 9; what++) {
            Checks.same("1: count(" + what + ") of a new object", x.count(what), 0);
        }
        Checks.thrown("1: output(0) of a new object", INDEX, () -> x.output(0));
        Checks.thrown("1: distance(0) of a new object", STATE, () -> x.distance(0));
        Checks.same("1: clear() of a new object", x.clear(), 0);
        Checks.same("1: gate(2) of a new object", x.gate(AND), 0);
        Checks.same("1: another object is not touched", new StateExplorer().count(0), 0);
    }

    private static void promise2Gate() {
        StateExplorer x = new StateExplorer();
        for (int sort = INPUT; sort <= OR; sort++) {
            Checks.same("2: gate(" + sort + ")", x.gate(sort), sort);
            Checks.same("2: gates", x.count(0), sort + 1);
        }
        Checks.same("2: feeds of new gates", x.count(1), 0);
        Checks.thrown("2: gate(-1)", ARGUMENT, () -> x.gate(-1));
        Checks.thrown("2: gate(4)", ARGUMENT, () -> x.gate(4));
        Checks.thrown("2: gate(least int)", ARGUMENT, () -> x.gate(Integer.MIN_VALUE));
        Checks.thrown("2: gate(greatest int)", ARGUMENT, () -> x.gate(Integer.MAX_VALUE));
        Checks.same("2: gates after wrong sorts", x.count(0), 4);
    }

    private static void promise2GateLimits() {
        StateExplorer x = new StateExplorer();
        for (int i = 0; i < 4; i++) {
            Checks.same("2: input", x.gate(INPUT), i);
        }
        Checks.same("2: input 5 of 4", x.gate(INPUT), NONE);
        for (int i = 0; i < 8; i++) {
            Checks.same("2: latch", x.gate(LATCH), 4 + i);
        }
        Checks.same("2: latch 9 of 8", x.gate(LATCH), NONE);
        Checks.same("2: input 5 of 4 again", x.gate(INPUT), NONE);
        for (int i = 12; i < 60; i++) {
            Checks.same("2: and, or", x.gate(i % 2 == 0 ? AND : OR), i);
        }
        for (int sort = INPUT; sort <= OR; sort++) {
            Checks.same("2: gate 61 of 60", x.gate(sort), NONE);
        }
        Checks.thrown("2: a wrong sort comes before NONE", ARGUMENT, () -> x.gate(4));
        Checks.same("2: gates", x.count(0), 60);
        Checks.same("2: inputs", x.count(2), 4);
        Checks.same("2: latches", x.count(3), 8);
    }

    private static void promise3Feed() {
        StateExplorer x = Nets.of(INPUT, LATCH, AND, OR);
        Checks.same("3: first feed of the and", x.feed(2, 0, false), 1);
        Checks.same("3: first feed of the or", x.feed(3, 2, true), 1);
        Checks.same("3: second feed of the and", x.feed(2, 1, false), 2);
        Checks.same("3: the same feed again", x.feed(2, 1, false), 3);
        Checks.same("3: a gate feeds itself", x.feed(2, 2, true), 4);
        Checks.same("3: feed of the latch", x.feed(1, 3, true), 1);
        Checks.same("3: all feeds", x.count(1), 6);
        Checks.thrown("3: a latch with a feed", STATE, () -> x.feed(1, 3, true));
        Checks.thrown("3: an input", STATE, () -> x.feed(0, 3, false));
        Checks.thrown("3: to = 4", INDEX, () -> x.feed(4, 0, false));
        Checks.thrown("3: to = -1", INDEX, () -> x.feed(-1, 0, false));
        Checks.thrown("3: from = 4", INDEX, () -> x.feed(2, 4, false));
        Checks.thrown("3: from = -1", INDEX, () -> x.feed(2, -1, false));
        Checks.thrown("3: from is looked at before an input", INDEX, () -> x.feed(0, 4, false));
        Checks.thrown("3: from is looked at before a fed latch", INDEX, () -> x.feed(1, -7, false));
        Checks.same("3: feeds after wrong ones", x.count(1), 6);
        StateExplorer late = Nets.of(OR, OR);
        late.feed(1, 0, true);
        late.feed(0, 1, false);
        late.gate(AND);
        Checks.same("3: a new gate has no feeds of others", late.feed(2, 0, false), 1);
        Checks.same("3: feeds are counted by gate", late.feed(0, 0, false), 2);
    }

    private static void promise3FeedLimit() {
        StateExplorer x = Nets.of(INPUT, LATCH, LATCH, AND, OR);
        x.feed(2, 0, false);
        for (int i = 1; i < 240; i++) {
            Checks.same("3: feed " + i, x.feed(i % 2 == 1 ? 3 : 4, i % 5, false), (i + 1) / 2);
        }
        Checks.same("3: feed 241 of 240", x.feed(3, 0, false), NONE);
        Checks.same("3: feed 241 of 240 to a latch", x.feed(1, 0, false), NONE);
        Checks.thrown("3: an input comes before NONE", STATE, () -> x.feed(0, 0, false));
        Checks.thrown("3: a fed latch comes before NONE", STATE, () -> x.feed(2, 0, false));
        Checks.thrown("3: a missing gate comes before NONE", INDEX, () -> x.feed(3, 5, false));
        Checks.same("3: all feeds", x.count(1), 240);
    }

    private static void promise4Output() {
        StateExplorer x = Nets.of(INPUT, LATCH, AND, OR, OR, OR, AND);
        for (int i = 0; i < 6; i++) {
            Checks.same("4: output", x.output(i), i + 1);
        }
        Checks.same("4: output 7 of 6", x.output(6), NONE);
        Checks.same("4: outputs", x.count(4), 6);
        Checks.thrown("4: a missing gate comes before NONE", INDEX, () -> x.output(7));
        Checks.thrown("4: output(-1)", INDEX, () -> x.output(-1));
        StateExplorer twice = Nets.of(OR);
        twice.output(0);
        Checks.same("4: each naming of a gate counts", twice.output(0), 2);
        Checks.thrown("4: output(1) of one gate", INDEX, () -> twice.output(1));
        Checks.same("4: outputs after a wrong one", twice.count(4), 2);
    }

    private static void promise5Clear() {
        StateExplorer x = Nets.counter(3);
        x.output(0);
        int gates = x.count(0);
        x.explore();
        Checks.same("5: clear()", x.clear(), gates);
        for (int what = 0; what <= 9; what++) {
            Checks.same("5: count(" + what + ") after clear", x.count(what), 0);
        }
        Checks.same("5: clear() again", x.clear(), 0);
        Checks.same("5: numbers begin at 0 again", x.gate(AND), 0);
        Checks.same("5: the new gate has no old feeds", x.feed(0, 0, true), 1);
        Checks.same("5: feeds", x.count(1), 1);
        StateExplorer full = Nets.of(INPUT, INPUT, INPUT, INPUT);
        full.clear();
        Checks.same("5: inputs are free again", full.gate(INPUT), 0);
        StateExplorer latch = Nets.of(INPUT, LATCH);
        latch.feed(1, 0, false);
        latch.clear();
        latch.gate(INPUT);
        latch.gate(LATCH);
        Checks.same("5: the old latch's feed is gone", latch.explore(), 1);
        Checks.same("5: the new latch takes one", latch.feed(1, 0, false), 1);
    }

    private static void promise6Explore() {
        Checks.same("6: without gates", new StateExplorer().explore(), 1);
        Checks.same("6: a latch without a feed", Nets.of(LATCH).explore(), 1);
        Checks.same("6: a counter of 8 bits", Nets.counter(8).explore(), 256);
        StateExplorer free = Nets.of(INPUT, INPUT, LATCH, LATCH, LATCH);
        free.feed(2, 0, false);
        free.feed(3, 1, true);
        Checks.same("6: latches that follow inputs", free.explore(), 4);
        Checks.same("6: again without a change", free.explore(), 4);
        free.feed(4, 2, false);
        Checks.same("6: a latch behind a latch", free.explore(), 8);
    }

    private static void promise6Settling() {
        Checks.same("6: an and without feeds is 1", onlyLatchAfter(Nets.of(LATCH, AND), 1), 1);
        Checks.same("6: an or without feeds is 0", onlyLatchAfter(Nets.of(LATCH, OR), 1), 0);
        StateExplorer loop = Nets.of(LATCH, AND);
        loop.feed(1, 1, false);
        Checks.same("6: an and that feeds itself", onlyLatchAfter(loop, 1), NONE);
        StateExplorer broken = Nets.of(LATCH, AND);
        broken.feed(1, 1, true);
        broken.feed(1, 0, false);
        Checks.same("6: a 0 makes it known all the same", onlyLatchAfter(broken, 1), 0);
        StateExplorer forced = Nets.of(LATCH, OR);
        forced.feed(1, 1, true);
        forced.feed(1, 0, true);
        Checks.same("6: a 1 makes an or known all the same", onlyLatchAfter(forced, 1), 1);
        StateExplorer far = Nets.of(LATCH, OR, AND);
        far.feed(2, 2, false);
        Checks.same("6: a gate beside it that is not known", onlyLatchAfter(far, 1), NONE);
        StateExplorer chain = Nets.of(LATCH);
        int top = chain.gate(OR);
        for (int i = 0; i < 58; i++) {
            int below = chain.gate(i % 2 == 0 ? AND : OR);
            chain.feed(below - 1, below, true);
        }
        Checks.same("6: a chain against the numbers", onlyLatchAfter(chain, top), 0);
    }

    /** No gate but the last is known at first, and each makes but the one before it known. */
    private static void promise6LongestChain() {
        StateExplorer x = Nets.of(AND);
        for (int below = 1; below < 60; below++) {
            x.gate(below % 2 == 0 ? AND : OR);
            x.feed(below - 1, below, false);
        }
        Checks.same("6: a chain of 60", x.explore(), 1);
        Checks.same("6: it settles", x.count(9), 0);
        Checks.same("6: to its last one's value", x.always(0), 0);
    }

    /** What is explored after a change has nothing of what was explored before. */
    private static void promise6Anew() {
        StateExplorer x = Nets.counter(4);
        x.output(0);
        x.output(3);
        int loop = x.gate(AND);
        x.feed(loop, loop, false);
        for (int latch = 0; latch < 4; latch++) {
            x.feed(loop, latch, false);
        }
        Checks.same("6: the first net", x.explore(), 16);
        Checks.same("11: it does not settle at the end", x.doubt(0), 15);
        Checks.same("14: its groups", x.count(8), 16);
        x.clear();
        x.gate(OR);
        x.gate(LATCH);
        x.gate(LATCH);
        x.gate(AND);
        x.feed(0, 0, true);
        x.feed(0, 3, false);
        x.feed(1, 3, false);
        Checks.same("6: the second net", x.explore(), 2);
        Checks.same("7: what is not reached now", x.distance(2), NONE);
        Checks.same("9: what was far away", x.many(15), 0);
        for (int what = 0; what <= 2; what++) {
            Checks.same("11: no doubt any more", x.doubt(what), NONE);
        }
        Checks.same("12: only the new values", x.always(0), 1);
        Checks.same("12: a latch that stays", x.always(2), 0);
        Checks.same("13: only the new values", x.isSame(0, 3) ? 1 : 0, 1);
        Checks.same("14: one group", x.count(8), 1);
        Checks.same("14: of both states", x.group(1), 0);
        Checks.same("15: no doubts any more", x.count(9), 0);
    }

    private static int onlyLatchAfter(StateExplorer x, int gate) {
        x.feed(0, gate, false);
        x.explore();
        return x.next(0, 0);
    }

    private static void promise7Distance() {
        StateExplorer x = Nets.counter(4);
        x.explore();
        for (int state = 0; state < 16; state++) {
            Checks.same("7: distance in a counter", x.distance(state), state);
        }
        Checks.thrown("7: distance(16)", INDEX, () -> x.distance(16));
        Checks.thrown("7: distance(-1)", INDEX, () -> x.distance(-1));
        StateExplorer still = Nets.of(LATCH, LATCH);
        still.explore();
        Checks.same("7: state 0", still.distance(0), 0);
        Checks.same("7: a state that is not reached", still.distance(3), NONE);
        Checks.thrown("7: distance(4)", INDEX, () -> still.distance(4));
        StateExplorer shift = Nets.of(INPUT, LATCH, LATCH, LATCH);
        shift.feed(1, 0, false);
        shift.feed(2, 1, false);
        shift.feed(3, 2, false);
        shift.explore();
        int[] due = {0, 1, 2, 2, 3, 3, 3, 3};
        for (int state = 0; state < 8; state++) {
            Checks.same("7: distance of " + state + " in a shift row", shift.distance(state), due[state]);
        }
        StateExplorer none = new StateExplorer();
        none.explore();
        Checks.same("7: the one state without latches", none.distance(0), 0);
        Checks.thrown("7: distance(1) without latches", INDEX, () -> none.distance(1));
    }

    private static void promise8Way() {
        StateExplorer x = Nets.of(INPUT, INPUT, LATCH);
        int either = x.gate(OR);
        x.feed(either, 1, false);
        x.feed(either, 0, false);
        x.feed(2, either, false);
        x.explore();
        Checks.same("8: the least of the choices 1, 2, 3", x.way(1, 0), 1);
        Checks.same("8: behind its last step", x.way(1, 1), NONE);
        Checks.same("8: far behind it", x.way(1, Integer.MAX_VALUE), NONE);
        Checks.same("8: the way to state 0 has no step", x.way(0, 0), NONE);
        Checks.thrown("8: way(2, 0)", INDEX, () -> x.way(2, 0));
        Checks.thrown("8: way(-1, 0)", INDEX, () -> x.way(-1, 0));
        Checks.thrown("8: steps are from 0 on", INDEX, () -> x.way(1, -1));
        Checks.thrown("8: also on the way to state 0", INDEX, () -> x.way(0, Integer.MIN_VALUE));
        StateExplorer still = Nets.of(LATCH);
        still.explore();
        Checks.same("8: a state that is not reached", still.way(1, 0), NONE);
        Checks.thrown("8: exceptions come before NONE", INDEX, () -> still.way(1, -1));
    }

    /**
     * With choice 0 state 0 goes to 2, with choice 1 to 1; from 2 it is choice 1 that leads to 3,
     * from 1 it is choice 0. So the least way is 0, 1, though state 1 is the less one.
     */
    private static void promise8WaySteps() {
        StateExplorer x = Nets.of(INPUT, LATCH, LATCH);
        int both = Nets.and(x, 1, false, 2, false);
        int low = x.gate(OR);
        x.feed(low, 0, false);
        x.feed(low, 1, false);
        int high = x.gate(OR);
        x.feed(high, 0, true);
        x.feed(high, 2, false);
        x.feed(1, low, false);
        x.feed(2, high, false);
        x.output(both);
        Checks.same("8: all states", x.explore(), 4);
        Checks.same("8: state 1", x.distance(1), 1);
        Checks.same("8: state 2", x.distance(2), 1);
        Checks.same("8: state 3", x.distance(3), 2);
        Checks.same("8: first step to 3", x.way(3, 0), 0);
        Checks.same("8: second step to 3", x.way(3, 1), 1);
        Checks.same("8: step to 1", x.way(1, 0), 1);
        Checks.same("8: step to 2", x.way(2, 0), 0);
        StateExplorer shift = Nets.of(INPUT, LATCH, LATCH, LATCH);
        shift.feed(1, 0, false);
        shift.feed(2, 1, false);
        shift.feed(3, 2, false);
        shift.explore();
        Checks.same("8: to 6, step 0", shift.way(6, 0), 1);
        Checks.same("8: to 6, step 1", shift.way(6, 1), 1);
        Checks.same("8: to 6, step 2", shift.way(6, 2), 0);
        Checks.same("8: to 6, step 3", shift.way(6, 3), NONE);
    }

    private static void promise9Many() {
        StateExplorer shift = Nets.of(INPUT, LATCH, LATCH, LATCH);
        shift.feed(1, 0, false);
        shift.feed(2, 1, false);
        shift.feed(3, 2, false);
        shift.explore();
        int[] due = {1, 1, 2, 4, 0};
        for (int distance = 0; distance < due.length; distance++) {
            Checks.same("9: many(" + distance + ")", shift.many(distance), due[distance]);
        }
        Checks.same("9: many(-1) is not of states that are not reached", Nets.explored(LATCH).many(-1), 0);
        Checks.same("9: many(least int)", shift.many(Integer.MIN_VALUE), 0);
        Checks.same("9: many(greatest int)", shift.many(Integer.MAX_VALUE), 0);
    }

    private static void promise10Next() {
        StateExplorer x = Nets.of(LATCH, INPUT, LATCH, LATCH);
        x.feed(0, 2, true);
        x.feed(2, 1, true);
        x.explore();
        for (int state = 0; state < 8; state++) {
            for (int choice = 0; choice < 16; choice++) {
                int due = ((state >> 1 & 1) ^ 1) | ((choice & 1) ^ 1) << 1 | (state & 4);
                Checks.same("10: next(" + state + ", " + choice + ")", x.next(state, choice), due);
            }
        }
        Checks.thrown("10: choice 16", INDEX, () -> x.next(0, 16));
        Checks.thrown("10: choice -1", INDEX, () -> x.next(0, -1));
        Checks.thrown("10: state 8", INDEX, () -> x.next(8, 0));
        Checks.thrown("10: state -1", INDEX, () -> x.next(-1, 0));
        StateExplorer loop = Nets.of(INPUT, LATCH, AND);
        loop.feed(2, 2, false);
        loop.feed(2, 0, false);
        loop.feed(2, 1, false);
        loop.explore();
        Checks.same("10: settles in state 0", loop.next(0, 1), 0);
        Checks.same("10: settles without the input", loop.next(1, 0), 1);
        Checks.same("10: does not settle in a state that is not reached", loop.next(1, 1), NONE);
        Checks.same("10: the bits of other inputs are passed over", loop.next(1, 15), NONE);
        Checks.thrown("10: exceptions come before NONE", INDEX, () -> loop.next(1, 17));
        Checks.same("10: without gates", Nets.explored().next(0, 15), 0);
    }

    private static void promise11Doubt() {
        StateExplorer x = Nets.counter(3);
        int input = 3;
        int loop = x.gate(AND);
        x.feed(loop, loop, false);
        x.feed(loop, 0, true);
        x.feed(loop, 1, false);
        x.feed(loop, input, false);
        Checks.same("11: reached till it does not settle", x.explore(), 3);
        Checks.same("11: the distance", x.doubt(0), 2);
        Checks.same("11: the state", x.doubt(1), 2);
        Checks.same("11: the choice", x.doubt(2), 1);
        Checks.same("11: how many", x.count(9), 1);
        Checks.thrown("11: doubt(3)", INDEX, () -> x.doubt(3));
        Checks.thrown("11: doubt(-1)", INDEX, () -> x.doubt(-1));
        StateExplorer sure = Nets.explored(INPUT, LATCH, AND);
        for (int what = 0; what <= 2; what++) {
            Checks.same("11: without any", sure.doubt(what), NONE);
        }
        Checks.thrown("11: exceptions come before NONE", INDEX, () -> sure.doubt(3));
        StateExplorer never = Nets.of(INPUT, OR);
        never.feed(1, 1, true);
        never.explore();
        for (int what = 0; what <= 2; what++) {
            Checks.same("11: in state 0 with choice 0", never.doubt(what), 0);
        }
    }

    /** State 0 goes to 2 with choice 0 and to 1 with choice 1; both do not settle with choice 1. */
    private static void promise11DoubtOrder() {
        StateExplorer x = Nets.of(INPUT, LATCH, LATCH);
        x.feed(1, 0, false);
        x.feed(2, 0, true);
        int some = x.gate(OR);
        x.feed(some, 1, false);
        x.feed(some, 2, false);
        int loop = x.gate(AND);
        x.feed(loop, loop, true);
        x.feed(loop, some, false);
        x.feed(loop, 0, false);
        Checks.same("11: three states", x.explore(), 3);
        Checks.same("11: the least distance", x.doubt(0), 1);
        Checks.same("11: the least state, though it comes later", x.doubt(1), 1);
        Checks.same("11: the least choice", x.doubt(2), 1);
        Checks.same("11: two pairs", x.count(9), 2);
    }

    private static void promise12Always() {
        StateExplorer x = Nets.of(INPUT, LATCH, AND, OR, LATCH, OR);
        x.feed(5, 0, false);
        x.feed(5, 0, true);
        x.feed(4, 5, false);
        x.explore();
        Checks.same("12: an input", x.always(0), 2);
        Checks.same("12: a latch without a feed", x.always(1), 0);
        Checks.same("12: an and without feeds", x.always(2), 1);
        Checks.same("12: an or without feeds", x.always(3), 0);
        Checks.same("12: a latch that goes up", x.always(4), 2);
        Checks.same("12: what is one or the other", x.always(5), 1);
        Checks.thrown("12: always(6)", INDEX, () -> x.always(6));
        Checks.thrown("12: always(-1)", INDEX, () -> x.always(-1));
        StateExplorer never = Nets.of(AND, OR);
        never.feed(1, 1, false);
        never.explore();
        Checks.same("12: where the net never settles", never.always(0), 2);
        StateExplorer half = Nets.of(INPUT, AND);
        half.feed(1, 1, false);
        half.feed(1, 0, false);
        half.explore();
        Checks.same("12: only choices with which it settles", half.always(0), 0);
        Checks.same("12: the gate that does not settle else", half.always(1), 0);
    }

    private static void promise13IsSame() {
        StateExplorer x = Nets.of(INPUT, LATCH, AND, OR, LATCH);
        x.feed(2, 0, false);
        x.feed(3, 0, true);
        x.feed(1, 2, false);
        x.feed(4, 3, true);
        x.explore();
        Checks.same("13: an and of one feed", x.isSame(0, 2) ? 1 : 0, 1);
        Checks.same("13: a negated one", x.isSame(0, 3) ? 1 : 0, 0);
        Checks.same("13: latches that go alike", x.isSame(1, 4) ? 1 : 0, 1);
        Checks.same("13: a latch and its feed", x.isSame(1, 2) ? 1 : 0, 0);
        Checks.same("13: a gate and itself", x.isSame(3, 3) ? 1 : 0, 1);
        Checks.thrown("13: isSame(5, 0)", INDEX, () -> x.isSame(5, 0) ? 1 : 0);
        Checks.thrown("13: isSame(0, 5)", INDEX, () -> x.isSame(0, 5) ? 1 : 0);
        Checks.thrown("13: isSame(-1, 0)", INDEX, () -> x.isSame(-1, 0) ? 1 : 0);
        Checks.thrown("13: isSame(0, -1)", INDEX, () -> x.isSame(0, -1) ? 1 : 0);
        StateExplorer never = Nets.of(AND, OR, OR);
        never.feed(2, 2, true);
        never.explore();
        Checks.same("13: where the net never settles", never.isSame(0, 1) ? 1 : 0, 1);
        StateExplorer still = Nets.explored(LATCH, OR, LATCH);
        Checks.same("13: only reached states", still.isSame(0, 1) ? 1 : 0, 1);
    }

    /** Gates that differ in one state of 256 alone, the first or the last one. */
    private static void promise12And13InManyStates() {
        StateExplorer x = Nets.counter(8);
        int last = x.gate(AND);
        int notFirst = x.gate(OR);
        for (int latch = 0; latch < 8; latch++) {
            x.feed(last, latch, false);
            x.feed(notFirst, latch, false);
        }
        int zero = x.gate(OR);
        int one = x.gate(AND);
        x.explore();
        Checks.same("12: 1 in the last state alone", x.always(last), 2);
        Checks.same("12: 0 in the first state alone", x.always(notFirst), 2);
        Checks.same("12: 0 in all", x.always(zero), 0);
        Checks.same("12: 1 in all", x.always(one), 1);
        Checks.same("13: other in the last state", x.isSame(last, zero) ? 1 : 0, 0);
        Checks.same("13: other in the last state, turned", x.isSame(zero, last) ? 1 : 0, 0);
        Checks.same("13: other in the first state", x.isSame(notFirst, one) ? 1 : 0, 0);
        Checks.same("13: latches 6 and 7", x.isSame(6, 7) ? 1 : 0, 0);
        Checks.same("13: the same in all", x.isSame(notFirst, notFirst) ? 1 : 0, 1);
    }

    private static void promise14GroupByNext() {
        StateExplorer x = Nets.counter(4);
        x.output(0);
        x.output(1);
        x.explore();
        Checks.same("14: four groups of four", x.count(8), 4);
        for (int state = 0; state < 16; state++) {
            Checks.same("14: group(" + state + ") of four", x.group(state), state & 3);
        }
        StateExplorer by0 = Nets.of(INPUT, LATCH, LATCH);
        by0.feed(1, 0, false);
        by0.feed(2, Nets.and(by0, 1, false, 0, true), false);
        by0.output(2);
        Checks.same("14: states 0, 1, 2", by0.explore(), 3);
        Checks.same("14: told apart by the next states of choice 0", by0.group(1), 1);
        Checks.same("14: told apart by the output", by0.group(2), 2);
        Checks.same("14: not reached", by0.group(3), NONE);
    }

    private static void promise14Group() {
        StateExplorer x = Nets.counter(3);
        x.explore();
        Checks.same("14: without outputs all are one group", x.count(8), 1);
        Checks.same("14: which is called 0", x.group(7), 0);
        x.output(0);
        x.explore();
        Checks.same("14: the lowest bit is seen", x.count(8), 2);
        for (int state = 0; state < 8; state++) {
            Checks.same("14: group(" + state + ")", x.group(state), state & 1);
        }
        x.output(2);
        x.explore();
        Checks.same("14: the highest bit is seen", x.count(8), 8);
        Checks.same("14: group(6)", x.group(6), 6);
        Checks.thrown("14: group(8)", INDEX, () -> x.group(8));
        Checks.thrown("14: group(-1)", INDEX, () -> x.group(-1));
        StateExplorer still = Nets.explored(LATCH);
        Checks.same("14: a state that is not reached", still.group(1), NONE);
        StateExplorer mealy = Nets.of(INPUT, LATCH);
        mealy.feed(1, 0, false);
        mealy.output(Nets.and(mealy, 0, false, 1, false));
        mealy.explore();
        Checks.same("14: told apart by an output with choice 1 alone", mealy.group(1), 1);
    }

    /** The latch follows the input; gate 2 does not settle with the input at the latch's 1. */
    private static void promise14GroupBySettling() {
        StateExplorer x = Nets.of(INPUT, LATCH, AND);
        x.feed(1, 0, false);
        x.feed(2, 2, false);
        x.feed(2, 0, false);
        x.feed(2, 1, false);
        Checks.same("14: two states", x.explore(), 2);
        Checks.same("14: told apart by settling", x.group(1), 1);
        StateExplorer hidden = Nets.of(INPUT, LATCH, AND);
        hidden.feed(1, 0, true);
        hidden.feed(2, 2, false);
        hidden.feed(2, 0, false);
        int seen = Nets.and(hidden, 1, false, 0, false);
        hidden.output(seen);
        hidden.output(2);
        Checks.same("14: two states again", hidden.explore(), 2);
        Checks.same("14: outputs where it does not settle do not count", hidden.group(1), 0);
        Checks.same("14: one group", hidden.count(8), 1);
    }

    /** Only the last state of the row differs, so each round of splitting parts one state off. */
    private static void promise14GroupLongChain() {
        StateExplorer x = Nets.counter(8);
        int last = x.gate(AND);
        for (int latch = 0; latch < 8; latch++) {
            x.feed(last, latch, false);
        }
        x.output(last);
        Checks.same("14: all states of 8 latches", x.explore(), 256);
        Checks.same("14: all told apart", x.count(8), 256);
        Checks.same("14: the last one", x.group(255), 255);
        Checks.same("14: the greatest distance", x.count(7), 255);
    }

    private static void promise15Count() {
        StateExplorer x = Nets.counter(2);
        x.output(1);
        x.output(2);
        x.gate(INPUT);
        int[] before = {10, 14, 2, 2, 2, 0, 0, 0, 0, 0};
        for (int what = 0; what <= 9; what++) {
            Checks.same("15: count(" + what + ") before", x.count(what), before[what]);
        }
        x.explore();
        int[] after = {10, 14, 2, 2, 2, 1, 4, 3, 4, 0};
        for (int what = 0; what <= 9; what++) {
            Checks.same("15: count(" + what + ") after", x.count(what), after[what]);
        }
        Checks.same("15: count(10)", x.count(10), NONE);
        Checks.same("15: count(-1)", x.count(-1), NONE);
        Checks.same("15: count(least int)", x.count(Integer.MIN_VALUE), NONE);
        Checks.same("15: count(greatest int)", x.count(Integer.MAX_VALUE), NONE);
        StateExplorer never = Nets.of(INPUT, INPUT, LATCH, OR);
        never.feed(3, 3, false);
        never.explore();
        Checks.same("15: four choices of two inputs", never.count(9), 4);
        Checks.same("15: one group of one state", never.count(8), 1);
        Checks.same("15: greatest distance", never.count(7), 0);
    }

    private static void questionsBeforeExploring() {
        StateExplorer x = Nets.of(INPUT, LATCH);
        for (int wrong = -9; wrong <= 9; wrong += 9) {
            int number = wrong;
            Checks.thrown("7: nothing is explored", STATE, () -> x.distance(number));
            Checks.thrown("8: nothing is explored", STATE, () -> x.way(number, 0));
            Checks.thrown("8: nothing is explored, i", STATE, () -> x.way(0, number));
            Checks.thrown("9: nothing is explored", STATE, () -> x.many(number));
            Checks.thrown("10: nothing is explored", STATE, () -> x.next(number, 0));
            Checks.thrown("10: nothing is explored, choice", STATE, () -> x.next(0, number * 2));
            Checks.thrown("11: nothing is explored", STATE, () -> x.doubt(number));
            Checks.thrown("12: nothing is explored", STATE, () -> x.always(number));
            Checks.thrown("13: nothing is explored", STATE, () -> x.isSame(number, 0) ? 1 : 0);
            Checks.thrown("13: nothing is explored, other", STATE, () -> x.isSame(0, number) ? 1 : 0);
            Checks.thrown("14: nothing is explored", STATE, () -> x.group(number));
        }
    }

    private static void whatForgets() {
        StateExplorer x = Nets.explored(LATCH, AND);
        x.gate(OR);
        Checks.same("2: a new gate forgets", x.count(5), 0);
        x.explore();
        x.feed(0, 1, false);
        Checks.same("3: a new feed forgets", x.count(5), 0);
        Checks.same("3: and counts in what is explored then", x.explore(), 2);
        x.output(0);
        Checks.same("4: a new output forgets", x.count(5), 0);
        Checks.same("4: states are not known any more", x.count(6), 0);
        x.explore();
        x.clear();
        Checks.same("5: clear forgets", x.count(5), 0);
        Checks.thrown("5: clear forgets", STATE, () -> x.distance(0));
        x.explore();
        x.clear();
        Checks.same("5: clear forgets also without gates", x.count(5), 0);
    }

    private static void whatDoesNotForget() {
        StateExplorer x = Nets.of(INPUT, INPUT, INPUT, INPUT, AND, LATCH);
        for (int i = 0; i < 240; i++) {
            x.feed(4, 0, false);
        }
        for (int i = 0; i < 6; i++) {
            x.output(i);
        }
        x.explore();
        Checks.same("2: refused", x.gate(INPUT), NONE);
        Checks.thrown("2: wrong", ARGUMENT, () -> x.gate(9));
        Checks.same("3: refused", x.feed(5, 0, false), NONE);
        Checks.thrown("3: wrong", STATE, () -> x.feed(0, 0, false));
        Checks.thrown("3: missing", INDEX, () -> x.feed(9, 0, false));
        Checks.same("4: refused", x.output(0), NONE);
        Checks.thrown("4: missing", INDEX, () -> x.output(9));
        Checks.same("what changes nothing forgets nothing", x.count(5), 1);
        Checks.same("and leaves what was explored", x.distance(0), 0);
    }

    /** 8 latches, 4 inputs, 60 gates and 240 feeds: the last state and choice stand in their places. */
    private static void biggestNet() {
        StateExplorer x = new StateExplorer();
        for (int i = 0; i < 12; i++) {
            x.gate(i < 8 ? LATCH : INPUT);
        }
        for (int latch = 0; latch < 8; latch++) {
            x.feed(latch, latch < 4 ? 8 + latch : latch - 4, false);
        }
        for (int i = 12; i < 60; i++) {
            x.gate(i % 2 == 0 ? AND : OR);
        }
        for (int i = 8; i < 240; i++) {
            int to = 12 + i % 48;
            x.feed(to, i % 60 < to ? i % 60 : i % 12, i % 7 == 0);
        }
        Checks.same("the biggest net: feeds", x.count(1), 240);
        Checks.same("the biggest net: all states", x.explore(), 256);
        Checks.same("the biggest net: two steps", x.count(7), 2);
        Checks.same("the biggest net: after one step", x.many(1), 15);
        Checks.same("the biggest net: after two steps", x.many(2), 240);
        for (int state = 0; state < 256; state++) {
            Checks.same("the biggest net: next", x.next(state, state >> 4),
                    (state & 15) << 4 | state >> 4);
        }
        Checks.same("the biggest net: first step to 0xA5", x.way(0xA5, 0), 0xA);
        Checks.same("the biggest net: second step to 0xA5", x.way(0xA5, 1), 0x5);
        Checks.same("the biggest net: settles", x.count(9), 0);
    }
}
