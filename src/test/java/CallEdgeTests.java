import java.util.function.LongUnaryOperator;

/**
 * The edges that the promises name, one promise after the other: of each argument the first and the last that is
 * taken, the one below and the one above; nothing there yet, all there that may be, what would be above a bound.
 */
public final class CallEdgeTests {
    private static final int NONE = MirrorLane.NONE;
    private static final long E12 = 1000000000000L;
    private static final long E18 = 1000000000000000000L;
    private static final long TOP = 9000000000000000000L;

    private static String promise = "";

    private CallEdgeTests() {
    }

    public static void main(String[] args) {
        newObject();
        rails();
        feed();
        wordAndChange();
        round();
        caps();
        signs();
        joinedAndLength();
        loops();
        power();
        rule();
        left();
        those();
        first();
        both();
        is();
        many();
        made();
        shortest();
        cost();
        cheapest();
        mend();
        back();
        walk();
        check();
        count();
        Checks.end();
    }

    private static void promise(String name) {
        promise = name + ": ";
    }

    private static void due(String call, long got, long want) {
        Checks.due(promise + call, got, want);
    }

    private static void due(String call, boolean got, boolean want) {
        Checks.due(promise + call, got, want);
    }

    /** An int argument: first and last are taken, and what stands outside is refused by NONE. */
    private static void range(String argument, int first, int last, LongUnaryOperator call) {
        for (long taken : new long[] {first, last}) {
            due(argument + " " + taken + " is taken", call.applyAsLong(taken) != NONE, true);
        }
        for (long none : new long[] {first - 1L, last + 1L, Integer.MIN_VALUE, Integer.MAX_VALUE}) {
            due(argument + " " + none, call.applyAsLong(none), NONE);
        }
    }

    /** A long argument, likewise. */
    private static void farRange(String argument, long first, long last, LongUnaryOperator call) {
        for (long taken : new long[] {first, last}) {
            due(argument + " " + taken + " is taken", call.applyAsLong(taken) != NONE, true);
        }
        long low = 1L << 32;
        for (long none : new long[] {first - 1, last + 1, Long.MIN_VALUE, Long.MAX_VALUE, -low, first - low, TOP}) {
            due(argument + " " + none, call.applyAsLong(none), NONE);
        }
    }

    /** The argument that tells a WORD, in lanes of one, three and sixteen WORDS, and where no WORD is yet. */
    private static void words(String argument, WordCall call) {
        for (int n : new int[] {1, 3, 16}) {
            MirrorLane lane = lane(n);
            range(argument + " of " + n, 0, n - 1, w -> call.answer(lane, (int) w));
        }
        MirrorLane none = new MirrorLane();
        for (int w = -1; w <= 16; w++) {
            due(argument + " " + w + " of none", call.answer(none, w), NONE);
        }
    }

    private interface WordCall {
        long answer(MirrorLane lane, int w);
    }

    /** Four RAILS and n WORDS, each x0. */
    private static MirrorLane lane(int n) {
        MirrorLane lane = new MirrorLane();
        for (int w = 0; w < n; w++) {
            Checks.tell(lane, "x0");
        }
        return lane;
    }

    // ---- the lane and its tape

    private static void newObject() {
        promise("1 a new object");
        MirrorLane lane = new MirrorLane();
        due("RAILS", lane.count(0), 4);
        due("WORDS", lane.count(1), 0);
        due("tape", lane.count(2), 0);
        due("CLOSED round", lane.count(3), 0);
        for (int w = -1; w <= 16; w++) {
            due("bytes of " + w, lane.count(10 + w), NONE);
            due("cost of " + w, lane.count(30 + w), NONE);
        }
        due("caps", lane.caps(), false);
        due("word", lane.word(1), NONE);
        due("change", lane.change(0, 1), NONE);
        due("back", lane.back(1), NONE);
        due("check", lane.check(0), -2);
        due("signs", lane.signs(0), NONE);
        due("many", lane.many(1, 1, 1), NONE);
        due("made", lane.made(1), NONE);
        due("shortest", lane.shortest(1, 1, NONE), NONE);
        due("cheapest", lane.cheapest(1, 0, NONE), NONE);
        due("cost", lane.cost(0, 1), false);
        due("mend", lane.mend(0), NONE);
        due("round", lane.round(), true);
        lane.feed(1, 0, 0, 0, 0);
        due("back, of no WORDS", lane.back(1), 0);
        due("its tape", lane.count(2), 0);
        due("the first word", Checks.tell(lane, "x2"), 0);
        due("round", lane.loops(0, 3), 3);
    }

    private static void rails() {
        promise("2 rails");
        MirrorLane lane = new MirrorLane();
        range("h", 2, 5, h -> lane.rails((int) h) ? h : NONE);
        due("the last taken", lane.count(0), 5);
        for (int h = 2; h <= 5; h++) {
            due("rails " + h, lane.rails(h), true);
            due("count(0)", lane.count(0), h);
        }
        due("rails 4", lane.rails(4), true);
        due("caps", Checks.caps(lane, 1, 0, 3, 2, 5, 4, 7, 6), true);
        due("no such number", lane.rails(6), false);
        due("still by caps", lane.count(3), 1);
        due("the same number", lane.rails(4), true);
        due("round again", lane.count(3), 0);
        due("caps", Checks.caps(lane, 1, 0, 3, 2, 5, 4, 7, 6), true);
        due("a fault", Checks.tell(lane, "x3"), -3001);
        due("with no WORD yet", lane.rails(2), true);
        due("round again", lane.count(3), 0);
        due("a word", Checks.tell(lane, "x0*0"), 0);
        due("round again", lane.loops(0, 3), 2);
        due("caps", Checks.caps(lane, 1, 0, 3, 2), true);
        for (int h = 1; h <= 6; h++) {
            due("with a WORD " + h, lane.rails(h), false);
        }
        due("count(0)", lane.count(0), 2);
        due("still by caps", lane.count(3), 1);
        due("still by caps", lane.loops(0, 3), 1);
    }

    private static void feed() {
        promise("3 feed");
        MirrorLane lane = new MirrorLane();
        Checks.tell(lane, "x0");
        for (int i = 1; i <= 10; i++) {
            due("feed " + i, lane.feed(0x78307531, 0x20406080, 0, 0, 0), 20 * i);
        }
        due("more than 200", lane.feed(0x75300000, 0, 0, 0, 0), NONE);
        due("more than 200", lane.feed(0x75300000, 0, 0, 0, 0), NONE);
        due("tape", lane.count(2), 200);
        due("its first bytes", lane.change(0, 4), 0);
        due("tape", lane.count(2), 0);
        due("x0u1", lane.joined(0, 0), 2);
        due("after an empty one", lane.feed(0, 0, 0, 0, 0), 20);
        lane.back(1);
        // twenty bytes, the highest of each int first, one int behind the other
        lane.feed(0x28783075, 0x302a3378, 0x302a3129, 0x2a327531, 0x2a347832);
        due("twenty bytes", lane.change(0, 20), 0);
        due("twenty bytes", lane.signs(0), (1 + 3 + 1) * 2 + 4 + 1);
        lane.feed(0x80ff7f00, 0x81fe0102, 0, 0, 0);
        due("bytes above 127", lane.word(2), -1000);
        lane.feed(0x7830ff00, 0, 0, 0, 0);
        due("bytes above 127", lane.word(4), -1002);
        MirrorLane five = Checks.lane(5, "x0*0");
        five.feed(0x05060708, 0x09000102, 0x03040000, 0, 0);
        due("ten bytes", five.check(0), NONE);
        five.feed(0x05060708, 0x09000102, 0x03050000, 0, 0);
        due("the last of ten", five.check(0), 9);
    }

    private static MirrorLane fed(int n) {
        MirrorLane lane = lane(1);
        for (int i = 0; i < n; i += 20) {
            lane.feed(0x78307830, 0x78307830, 0x78307830, 0x78307830, 0x78307830);
        }
        return lane;
    }

    private static void wordAndChange() {
        promise("4 word");
        for (int size : new int[] {20, 80, 100, 120, 200}) {
            int most = Math.min(size, 100);
            range("n of " + size, 1, most, n -> fed(size).word((int) n));
            range("n of " + size + ", change", 1, most, n -> fed(size).change(0, (int) n));
            for (int n : new int[] {-1, 0, most + 1, 201, Integer.MAX_VALUE, Integer.MIN_VALUE}) {
                MirrorLane lane = fed(size);
                due("n " + n, lane.word(n), NONE);
                due("n " + n + ", change", lane.change(0, n), NONE);
                due("the tape stays", lane.count(2), size);
                due("no new WORD", lane.count(1), 1);
                due("the first n", lane.word(most), 1);
                due("empty then", lane.count(2), 0);
                due("its bytes", lane.count(11), most);
            }
            MirrorLane odd = fed(size);
            due("a FAULT", odd.word(7), -1007);
            due("empty then", odd.count(2), 0);
            due("no new WORD", odd.count(1), 1);
        }
        MirrorLane lane = lane(15);
        due("the last", Checks.tell(lane, "x0u1"), 15);
        due("16 are there", Checks.tell(lane, "x0u1"), NONE);
        due("the tape stays", lane.count(2), 20);
        due("16 are there, no such n", lane.word(0), NONE);
        due("all the tape", lane.change(15, 2), 15);
        due("signs", lane.signs(15), 1);
        promise("5 change");
        words("w", (told, w) -> {
            told.feed(0x78307530, 0, 0, 0, 0);
            long answer = told.change(w, 4);
            due("tape", told.count(2), answer == NONE ? 20 : 0);
            told.back(1);
            return answer;
        });
        MirrorLane two = Checks.lane(4, "x0u1", "x1");
        due("a FAULT", Checks.tellAnew(two, 0, "u0u3"), -3003);
        due("it stays", two.joined(0, 0), 2);
        due("its bytes stay", two.count(10), 4);
        due("still PLAIN", two.is(0, 2), 1);
        due("tape", two.count(2), 0);
        due("the last of its SIGNS walked", two.walk(0, 0, 1), 1);
        due("empty tape", two.change(0, 1), NONE);
    }

    private static void round() {
        promise("6 round");
        MirrorLane lane = Checks.lane(2, "x0");
        due("round at first", lane.round(), true);
        due("three times", lane.left(0, 2), 2);
        due("caps", Checks.caps(lane, 1, 0, 3, 2), true);
        due("by caps", lane.left(0, 2), 1);
        lane.feed(1, 2, 3, 4, 5);
        due("round", lane.round(), true);
        due("the tape stays", lane.count(2), 20);
        due("count(3)", lane.count(3), 0);
        due("round", lane.left(0, 2), 2);
    }

    private static void caps() {
        promise("7 caps");
        MirrorLane two = Checks.lane(2, "x0*0");
        int[][] ofTwo = {{0, 1, 2, 3}, {2, 3, 0, 1}, {1, 0, 2, 3}, {0, 1, 3, 2}, {1, 0, 3, 4}, {1, 0, 3, 255}, {4, 0, 3, 2},
            {1, 1, 3, 2}, {1, 0, 3, 3}, {3, 2, 1, 0}, {0, 0, 0, 0}, {1, 0, 4, 5, 2, 3}, {1, 0, 4, 4, 3, 2}};
        for (int[] joints : ofTwo) {
            refusedCaps(two, joints);
        }
        due("the pairs of two", Checks.caps(two, 1, 0, 3, 2), true);
        due("by caps", two.loops(0, 3), 1);
        MirrorLane four = Checks.lane(4, "x0*0");
        int[][] ofFour = {{1, 0, 3, 2, 5, 4, 7, 8}, {1, 0, 3, 2, 5, 4, 6, 7}, {1, 2, 3, 0, 5, 4, 7, 6}, {1, 0, 3, 2, 1, 0, 3, 2},
            {4, 0, 3, 2, 0, 5, 7, 6}, {1, 0, 4, 5, 2, 3, 7, 6}, {1, 0, 3, 2, 6, 7, 5, 4}, {255, 0, 3, 2, 5, 4, 7, 6},
            {1, 0, 3, 2, 8, 9, 10, 11, 4, 5, 6, 7}, {1, 0, 3, 2, 5, 4, 8, 8, 6, 7}};
        for (int[] joints : ofFour) {
            refusedCaps(four, joints);
        }
        due("the pairs of four", Checks.caps(four, 3, 2, 1, 0, 6, 7, 4, 5), true);
        due("by caps", four.loops(0, 3), 1);
        refusedCaps(four, ofFour[0]);
        due("the others stay", four.loops(0, 3), 1);
        due("it has not so many", four.caps(), false);
        due("count(2)", four.count(2), 0);
        due("more than it needs", four.feed(0x01000302, 0x05040706, 9, 9, 9), 20);
        due("more than it needs", four.feed(0, 0, 0, 0, 0), 40);
        due("more than it needs", four.caps(), true);
        due("empty then", four.count(2), 0);
        due("by caps", four.loops(0, 3), 2);
        for (int h = 3; h <= 5; h += 2) {
            MirrorLane odd = new MirrorLane();
            odd.rails(h);
            due("H is odd, no bytes", odd.caps(), false);
            due("H is odd", Checks.caps(odd, 1, 0, 2, 4, 3, 5, 7, 6, 9, 8), false);
            due("the tape stays", odd.count(2), 20);
            due("still round", odd.count(3), 0);
        }
    }

    private static void refusedCaps(MirrorLane lane, int... joints) {
        int before = lane.count(3);
        due("no PAIRS", Checks.caps(lane, joints), false);
        due("empty then", lane.count(2), 0);
        due("as before", lane.count(3), before);
        due("as before", lane.loops(0, 3), before == 0 ? lane.count(0) : 1);
    }

    // ---- what a word makes

    private static void signs() {
        promise("8 signs");
        words("w", (lane, w) -> lane.signs(w));
        MirrorLane lane = Checks.lane(4, "x0*0", "(A*1000000)*9", "(A*1000000)*8A*999999(x0*999999)*1000001", "Cx0",
            "(A*1000000)*9x0", "((A*999999999)*999999999)*999999999", "B*10", "Bx0*0");
        long[] few = {0, 0, E12 - 1, E12, 1, 0, 0, 0};
        for (int w = 0; w < few.length; w++) {
            due("as told " + w, lane.signs(w), few[w]);
        }
        due("10 to the 12", Checks.tellAnew(lane, 0, "(x0*1000000)*1000000"), 0);
        long[] signs = {E12, TOP, TOP - 1, TOP, TOP, TOP, TOP, TOP};
        for (int w = 0; w < signs.length; w++) {
            due("signs " + w, lane.signs(w), signs[w]);
        }
        due("one less", Checks.tellAnew(lane, 0, "(x0*999999)*1000001"), 0);
        due("signs", lane.signs(1), TOP - 9000000);
        due("signs", lane.signs(4), TOP - 9000000 + 1);
    }

    private static void joinedAndLength() {
        promise("9 joined, 10 length");
        words("w, joined", (told, w) -> told.joined(w, 0));
        words("w, length", (told, w) -> told.length(w, 0));
        for (int h = 2; h <= 5; h++) {
            MirrorLane one = Checks.lane(h, "x0u0");
            range("e, joined", 0, 2 * h - 1, e -> one.joined(0, (int) e));
            range("e, length", 0, 2 * h - 1, e -> one.length(0, (int) e));
        }
    }

    private static void loops() {
        promise("11 loops");
        words("w", (lane, w) -> lane.loops(w, 0));
        MirrorLane lane = Checks.lane(4, "x0", "u0u0", "u0x0u0u0", "(u0*1000000)*1000000");
        range("what", 0, 3, what -> lane.loops(0, (int) what));
        long[][] due = {{0, 0, 0, 3}, {1, 2, 2, 4}, {2, 4, 6, 5}, {E12 - 1, 2, 2 * (E12 - 1), E12 + 2}};
        for (int w = 0; w < due.length; w++) {
            for (int what = 0; what < 4; what++) {
                due("loops " + w + " " + what, lane.loops(w, what), due[w][what]);
            }
        }
    }

    private static void power() {
        promise("12 power");
        words("w", (lane, w) -> lane.power(w, 0));
        MirrorLane lane = Checks.lane(4, "u0u1u2", "x0x1x2");
        range("what", 0, 1, what -> lane.power(0, (int) what));
        due("INDEX", lane.power(0, 0), 2);
        due("PERIOD", lane.power(0, 1), 1);
        due("INDEX", lane.power(1, 0), 1);
        due("PERIOD", lane.power(1, 1), 4);
    }

    private static void rule() {
        promise("13 rule");
        words("w", (lane, w) -> lane.rule(w, 0));
        MirrorLane lane = Checks.lane(4, "u0x2", "(u0*1000000)*1000000");
        range("what", 0, 2, what -> lane.rule(0, (int) what));
        // u0 leaves one LOOP more each, the ring of two one more by even ones
        due("p", lane.rule(0, 0), 2);
        due("g", lane.rule(0, 1), 2);
        due("m", lane.rule(0, 2), 1);
        due("p", lane.rule(1, 0), 1);
        due("g, the most", lane.rule(1, 1), E12);
    }

    private static void left() {
        promise("14 left");
        words("w", (lane, w) -> lane.left(w, 1));
        MirrorLane lane = Checks.lane(2, "u0*9", "u0*10", "(u0*1000000)*1000000", "u0*8", "x0");
        farRange("n", 1, E18, n -> lane.left(0, n));
        due("9 n", lane.left(0, 1), 9);
        due("just the bound", lane.left(0, E18), TOP);
        due("below it", lane.left(0, E18 - 1), TOP - 9);
        due("just the bound", lane.left(1, 900000000000000000L), TOP);
        due("below it", lane.left(1, 899999999999999999L), TOP - 10);
        due("above it", lane.left(1, 900000000000000001L), TOP);
        due("far above it", lane.left(1, E18), TOP);
        due("just the bound", lane.left(2, 9000000), TOP);
        due("below it", lane.left(2, 8999999), TOP - E12);
        due("above it", lane.left(2, 9000001), TOP);
        due("far above it", lane.left(2, E18), TOP);
        due("far below it", lane.left(3, E18), 8 * E18);
        due("even", lane.left(4, E18), 2);
        due("odd", lane.left(4, E18 - 1), 1);
        for (int h = 3; h <= 5; h++) {
            MirrorLane more = Checks.lane(h, "u0*9");
            due("above by the RAILS beside", more.left(0, E18), TOP);
            due("below", more.left(0, E18 - 1), TOP - 9 + h - 2);
        }
    }

    private static void those() {
        promise("15 those");
        words("w", (lane, w) -> lane.those(w, 3, 1, 2));
        MirrorLane lane = Checks.lane(2, "u0", "x0*0", "x0");
        farRange("k", 0, E18, k -> lane.those(0, k, 1, E18));
        farRange("from", 1, E18, from -> lane.those(0, 5, from, E18));
        farRange("from of 1", 1, 1, from -> lane.those(0, 5, from, 1));
        farRange("to", 1, E18, to -> lane.those(0, 5, 1, to));
        farRange("to from the last", E18, E18, to -> lane.those(0, 5, E18, to));
        farRange("to from the seventh", 7, E18, to -> lane.those(2, 5, 7, to));
        due("no LOOP", lane.those(0, 0, 1, E18), 0);
        due("just the one", lane.those(0, 5, 5, 5), 1);
        due("from just the one", lane.those(0, 5, 5, E18), 1);
        due("to just the one", lane.those(0, 5, 1, 5), 1);
        due("from one behind it", lane.those(0, 5, 6, E18), 0);
        due("to one ahead of it", lane.those(0, 5, 1, 4), 0);
        due("all", lane.those(1, 2, 1, E18), E18);
        due("even ones", lane.those(2, 2, 1, E18), E18 / 2);
        due("odd ones", lane.those(2, 1, 1, E18), E18 / 2);
        for (int from = 1; from <= 6; from++) {
            for (int to = from; to <= 6; to++) {
                due("even ones " + from + " " + to, lane.those(2, 2, from, to), to / 2 - (from - 1) / 2);
                due("odd ones " + from + " " + to, lane.those(2, 1, from, to), (to + 1) / 2 - from / 2);
            }
        }
        due("the last two", lane.those(2, 2, E18 - 1, E18), 1);
        due("the last", lane.those(2, 2, E18, E18), 1);
        due("the last but one", lane.those(2, 2, E18 - 1, E18 - 1), 0);
        // u0x2 leaves n + 1 by odd n, n + 2 by even ones
        MirrorLane two = Checks.lane(4, "u0x2");
        due("two of them", two.those(0, 10, 1, E18), 2);
        due("two of them", two.those(0, 10, 8, 9), 2);
        due("the first of two", two.those(0, 10, 8, 8), 1);
        due("the last of two", two.those(0, 10, 9, 9), 1);
        due("ahead of both", two.those(0, 10, 1, 7), 0);
        due("behind both", two.those(0, 10, 10, E18), 0);
        due("one of two", two.those(0, 2, 1, E18), 1);
        due("none", two.those(0, 11, 1, E18), 0);
        due("far", two.those(0, E18, E18 - 2, E18 - 1), 2);
        due("far", two.those(0, E18, E18 - 1, E18), 1);
    }

    private static void first() {
        promise("16 first");
        words("w", (lane, w) -> lane.first(w, 3));
        MirrorLane lane = Checks.lane(2, "u0", "x0*0", "x0", "u0u0");
        farRange("k", 1, E18, k -> lane.first(0, k));
        due("no LOOP", lane.first(0, 0), NONE);
        due("the first", lane.first(0, 1), 1);
        due("the last", lane.first(0, E18), E18);
        due("the last but one", lane.first(0, E18 - 1), E18 - 1);
        due("always two", lane.first(1, 2), 1);
        due("always two", lane.first(1, 3), NONE);
        due("even ones", lane.first(2, 2), 2);
        due("odd ones", lane.first(2, 1), 1);
        due("two each", lane.first(3, E18), E18 / 2);
        due("two each", lane.first(3, E18 - 1), NONE);
        MirrorLane two = Checks.lane(4, "u0x2");
        due("the first of two", two.first(0, 10), 8);
        due("the first of two", two.first(0, 4), 2);
        due("the first of two", two.first(0, E18), E18 - 2);
        due("one alone", two.first(0, 2), 1);
        due("odd k", two.first(0, E18 - 1), NONE);
        MirrorLane five = Checks.lane(5, "x0x1x3");
        due("by the sixth alone", five.first(0, 5), 6);
        due("by none", five.first(0, 6), NONE);
    }

    private static void both() {
        promise("17 both");
        words("a", (lane, w) -> lane.both(w, 0, 0));
        words("b", (lane, w) -> lane.both(0, w, 0));
        words("a and b", (lane, w) -> lane.both(w, w, 3));
        MirrorLane lane = Checks.lane(3, "x0", "u0", "u0u0", "x0*0", "x0x1");
        range("what", 0, 3, what -> lane.both(0, 1, (int) what));
        due("ALIKE but for a LOOP", lane.both(1, 2, 0), 0);
        due("takes up but for a LOOP", lane.both(1, 1, 2), 0);
        due("takes up straight", lane.both(1, 3, 2), 1);
        due("straight takes up", lane.both(3, 1, 2), 0);
        due("undoes itself", lane.both(0, 0, 3), 1);
        due("undoes not", lane.both(4, 4, 3), 0);
        due("straight undoes itself", lane.both(3, 3, 3), 1);
        due("change places with itself", lane.both(4, 4, 1), 1);
        due("not with another", lane.both(0, 4, 1), 0);
    }

    private static void is() {
        promise("18 is");
        words("w", (lane, w) -> lane.is(w, 0));
        MirrorLane lane = lane(1);
        range("what", 0, 3, what -> lane.is(0, (int) what));
    }

    // ---- sentences

    private static void many() {
        promise("19 many");
        MirrorLane lane = Checks.lane(2, "x0", "u0");
        range("letters", 1, 3, set -> lane.many((int) set, 1, 1));
        range("n", 1, 1000, n -> lane.many(3, (int) n, 2));
        range("k", 0, 3, k -> lane.many(3, 2, (int) k));
        due("n 1000", lane.many(1, 1000, 2), 1);
        due("n 999", lane.many(1, 999, 2), 0);
        due("n 1", lane.many(1, 1, 1), 1);
        due("k 3", lane.many(2, 3, 3), 1);
        due("k 0", lane.many(2, 3, 0), 0);
        // a row with u0 in it leaves as many LOOPS as it has u0; one of 1000 x0 leaves two
        due("1000, one", lane.many(3, 1000, 1), 1000);
        due("1000, two", lane.many(3, 1000, 2), 1000 * 999 / 2 + 1);
        due("1000, three", lane.many(3, 1000, 3), 166167000);
        due("999, one", lane.many(3, 999, 1), 999 + 1);
    }

    private static void made() {
        promise("20 made");
        MirrorLane lane = Checks.lane(2, "x0", "u0", "x0*0");
        range("letters", 1, 7, set -> lane.made((int) set));
        int[] made = {2, 1, 3, 1, 2, 2, 3};
        for (int set = 1; set <= 7; set++) {
            due("letters " + set, lane.made(set), made[set - 1]);
        }
        words("the letter of", (told, w) -> w < 0 || w > 15 ? NONE : told.made(1 << w));
    }

    private static void shortest() {
        promise("21 shortest");
        MirrorLane lane = Checks.lane(2, "x0", "u0", "u0u0u0");
        range("letters", 2, 7, set -> set == 1 ? NONE : lane.shortest((int) set, 3, NONE));
        range("k", 1, 3, k -> lane.shortest(3, (int) k, NONE));
        range("what", NONE, 2, what -> lane.shortest(3, 3, (int) what));
        due("three of u0", lane.shortest(3, 3, NONE), 3);
        due("one that leaves three", lane.shortest(7, 3, NONE), 1);
        due("one that leaves three", lane.shortest(7, 3, 0), 2);
        due("k 0", lane.shortest(7, 0, NONE), NONE);
        due("what -2", lane.shortest(7, 3, -2), NONE);
        due("what behind", lane.shortest(7, 3, 1), NONE);
        due("what behind", lane.shortest(7, 3, Integer.MAX_VALUE), NONE);
        due("what ahead", lane.shortest(7, 3, Integer.MIN_VALUE), NONE);
    }

    private static void cost() {
        promise("22 cost");
        words("w", (lane, w) -> lane.cost(w, 5) ? 1 : NONE);
        MirrorLane lane = lane(2);
        range("n", 1, 1000, n -> lane.cost(0, (int) n) ? 1 : NONE);
        due("the last taken", lane.count(30), 1000);
        due("the other's", lane.count(31), 1);
        due("0", lane.cost(0, 0), false);
        due("1001", lane.cost(0, 1001), false);
        due("as it was", lane.count(30), 1000);
    }

    private static void cheapest() {
        promise("23 cheapest");
        words("w", (lane, w) -> lane.cheapest(1, w, NONE));
        MirrorLane lane = Checks.lane(2, "x0", "u0", "x0*0");
        range("letters", 1, 7, set -> set == 2 ? 0 : lane.cheapest((int) set, 0, -2));
        due("there is none such", lane.cheapest(2, 0, -2), NONE);
        due("there is none such", lane.cheapest(2, 0, NONE), NONE);
        due("there is none such", lane.cheapest(2, 0, 0), NONE);
        due("cost", lane.cheapest(1, 2, -2), 2);
        due("letters", lane.cheapest(1, 2, NONE), 2);
        due("first", lane.cheapest(1, 2, 0), 0);
        due("last", lane.cheapest(1, 2, 1), 0);
        due("behind", lane.cheapest(1, 2, 2), NONE);
        due("behind", lane.cheapest(1, 2, Integer.MAX_VALUE), NONE);
        due("ahead", lane.cheapest(1, 2, -3), NONE);
        due("ahead", lane.cheapest(1, 2, Integer.MIN_VALUE), NONE);
        due("the dearest", lane.cost(0, 1000), true);
        due("the dearest", lane.cheapest(1, 2, -2), 2000);
    }

    // ---- the mend, told back, the walk, check, count

    private static void mend() {
        promise("24 mend");
        words("w", (lane, w) -> lane.mend(w));
        MirrorLane lane = Checks.lane(2, "x0x0x0x0x0x0x0x0x0x0", "x0x0x0x0x0x0x0x0x0x0x0", "(x0)", "A", "x0");
        int[] round = {-2, NONE, NONE, NONE, -2};
        int[] caps = {0, NONE, NONE, NONE, 0};
        for (int w = 0; w < 5; w++) {
            due("round " + w, lane.mend(w), round[w]);
        }
        due("caps", Checks.caps(lane, 1, 0, 3, 2), true);
        for (int w = 0; w < 5; w++) {
            due("by caps " + w, lane.mend(w), caps[w]);
        }
        due("the word stays", lane.signs(0), 10);
        due("the word stays", lane.is(0, 0), 0);
    }

    private static void back() {
        promise("25 back");
        for (int size = 0; size <= 200; size += 20) {
            int told = size;
            LongUnaryOperator call = n -> fed(told).back((int) n);
            if (size == 0) {
                due("n of none", call.applyAsLong(1), NONE);
            } else {
                range("n of " + size, 1, Math.min(size / 4, 8), call);
            }
            MirrorLane lane = fed(size);
            for (int n : new int[] {0, Math.min(size / 4, 8) + 1, 9, -1}) {
                due("n " + n + " of " + size, lane.back(n), NONE);
                due("the tape stays", lane.count(2), size);
            }
        }
        MirrorLane lane = Checks.lane(2, "u0", "(u0*999999999)*3", "(u0*999999999)*2", "((u0*65536)*65536)*2");
        due("1", Checks.back(lane, 1), 1);
        due("1 2 3 4 5 6 7 8", Checks.back(lane, 1, 2, 3, 4, 5, 6, 7, 8), 1);
        due("1 2 3 4 5 6 7 9", Checks.back(lane, 1, 2, 3, 4, 5, 6, 7, 9), 0);
        due("the first of the tape alone", Checks.back(lane, 1, 2, 3, 4), 1);
        due("just so many", Checks.back(lane, 1999999998), 4);
        due("four bytes", Checks.back(lane, (int) 2999999997L), 2);
        due("no more than four", Checks.back(lane, 0), 0);
        due("no more than four", Checks.back(lane, -1), 0);
        lane.feed(1, 2, 9, 9, 9);
        due("the first two", lane.back(2), 1);
        due("empty then", lane.count(2), 0);
    }

    private static void walk() {
        promise("26 walk");
        words("w", (lane, w) -> lane.walk(w, 0, NONE));
        for (int h = 2; h <= 5; h++) {
            MirrorLane lane = Checks.lane(h, "x0u0");
            range("e", 0, 2 * h - 1, e -> lane.walk(0, (int) e, NONE));
        }
        MirrorLane lane = Checks.lane(2, "x0x0x0", "x0*2000", "x0*2001", "x0*0");
        range("what", NONE, 2, what -> lane.walk(0, 0, (int) what));
        range("what of 2000", NONE, 1999, what -> lane.walk(1, 0, (int) what));
        for (int what : new int[] {NONE, 0, 1999, 2000}) {
            due("of 2001 " + what, lane.walk(2, 0, what), NONE);
        }
        due("nothing comes", lane.walk(3, 0, 0), NONE);
        due("nothing comes", lane.walk(3, 0, NONE), 2);
    }

    private static void check() {
        promise("27 check");
        for (int n : new int[] {1, 3, 16}) {
            MirrorLane lane = lane(n);
            for (int w : new int[] {-1, n, Integer.MIN_VALUE, Integer.MAX_VALUE}) {
                lane.feed(0x05040607, 0x01000203, 0, 0, 0);
                due("no such WORD " + w, lane.check(w), -2);
                due("the tape stays", lane.count(2), 20);
                lane.back(1);
            }
            due("it has not so many", lane.check(0), -2);
            for (int w : new int[] {0, n - 1}) {
                lane.feed(0x05040607, 0x01000203, 0, 0, 0);
                due("right", lane.check(w), NONE);
                due("empty then", lane.count(2), 0);
            }
            lane.feed(0x06040607, 0x01000203, 0, 0, 0);
            due("the first is not so", lane.check(0), 0);
            due("empty then", lane.count(2), 0);
            lane.feed(0x05040607, 0x01000202, 0, 0, 0);
            due("the last is not so", lane.check(0), 7);
            lane.feed(0x05040607, 0x01000203, 0xffffffff, -1, -1);
            due("what stands behind", lane.check(0), NONE);
        }
    }

    private static void count() {
        promise("28 count");
        for (int n : new int[] {0, 1, 15, 16}) {
            MirrorLane lane = lane(n);
            due("WORDS", lane.count(1), n);
            for (int what = -2; what <= 50; what++) {
                boolean told = what >= 0 && what <= 3 || what >= 10 && what < 10 + n || what >= 30 && what < 30 + n;
                due("count " + what + " of " + n, lane.count(what) != NONE, told);
            }
            for (int what : new int[] {Integer.MIN_VALUE, Integer.MIN_VALUE + 10, Integer.MAX_VALUE, 256, 266}) {
                due("count " + what, lane.count(what), NONE);
            }
            for (int w = 0; w < n; w++) {
                due("bytes", lane.count(10 + w), 2);
                due("cost", lane.count(30 + w), 1);
            }
        }
        MirrorLane lane = new MirrorLane();
        for (int i = 1; i <= 11; i++) {
            lane.feed(0, 0, 0, 0, 0);
            due("bytes of the tape", lane.count(2), Math.min(20 * i, 200));
        }
    }
}
