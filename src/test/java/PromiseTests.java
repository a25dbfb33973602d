/** The promises one by one, by answers worked out by hand: ordinary inputs, the edges, wrong inputs. */
public final class PromiseTests {
    private static final int NONE = MirrorLane.NONE;
    private static final long E18 = 1000000000000000000L;
    private static final long TOP = 9000000000000000000L;
    /** 999999999 times 999999999 and more SIGNS, told in steps so that no WORD is refused. */
    private static final String NINES = "*999999999";

    private PromiseTests() {
    }

    public static void main(String[] args) {
        newObject();
        rails();
        feed();
        word();
        faults();
        change();
        roundAndCaps();
        capsRefused();
        signs();
        joinedAndLength();
        loops();
        power();
        rule();
        left();
        those();
        first();
        both();
        is();
        tooLong();
        many();
        made();
        shortest();
        cost();
        cheapest();
        mend();
        back();
        walk();
        longWalk();
        check();
        count();
        Checks.end();
    }

    private static void due(String call, long got, long want) {
        Checks.due(call, got, want);
    }

    private static void due(String call, boolean got, boolean want) {
        Checks.due(call, got, want);
    }

    private static void newObject() {
        MirrorLane lane = new MirrorLane();
        due("NONE", MirrorLane.NONE, -1);
        due("new: rails", lane.count(0), 4);
        due("new: words", lane.count(1), 0);
        due("new: tape", lane.count(2), 0);
        due("new: caps", lane.count(3), 0);
        due("new: no word", lane.signs(0), NONE);
        Checks.tell(lane, "x2");
        due("new: round", lane.loops(0, 3), 3);
    }

    private static void rails() {
        MirrorLane lane = new MirrorLane();
        for (int h : new int[] {1, 6, 0, -1, Integer.MAX_VALUE, Integer.MIN_VALUE}) {
            due("rails " + h, lane.rails(h), false);
        }
        due("rails stay", lane.count(0), 4);
        due("caps", Checks.caps(lane, 1, 0, 3, 2, 5, 4, 7, 6), true);
        due("rails 9 with caps", lane.rails(9), false);
        due("caps stay", lane.count(3), 1);
        lane.feed(1, 2, 3, 4, 5);
        for (int h = 5; h >= 2; h--) {
            due("rails " + h, lane.rails(h), true);
            due("count(0)", lane.count(0), h);
            due("round again", lane.count(3), 0);
        }
        due("the tape stays", lane.count(2), 20);
        due("rails 4 is round", lane.rails(4), true);
        due("the tape is used up", lane.check(0), -2);
        due("the tape is used up", lane.back(5), 0);
        due("straight", Checks.tell(lane, "x0*0"), 0);
        due("straight leaves four", lane.loops(0, 3), 4);
        due("rails with a word", lane.rails(4), false);
        due("rails with a word", lane.rails(3), false);
        due("count(0)", lane.count(0), 4);
    }

    private static void feed() {
        MirrorLane lane = new MirrorLane();
        for (int i = 1; i <= 10; i++) {
            due("feed " + i, lane.feed(i, 0, 0, 0, 0), 20 * i);
        }
        due("feed 11", lane.feed(1, 2, 3, 4, 5), NONE);
        due("tape full", lane.count(2), 200);
        due("first numbers", lane.back(1), 0);
        due("feed again", lane.feed(0x78307530, 0x2a323020, 0, 0, 0), 20);
        due("word of its bytes", lane.word(6), 0);
        due("signs", lane.signs(0), 3);
        due("feed negative", lane.feed(-1, Integer.MIN_VALUE, -2, 0, 7), 20);
        due("word of byte 255", lane.word(1), -1000);
    }

    private static void word() {
        MirrorLane lane = new MirrorLane();
        due("no bytes", lane.word(1), NONE);
        Checks.feedText(lane, "x0x1x2u0u1");
        due("n 0", lane.word(0), NONE);
        due("n -1", lane.word(-1), NONE);
        due("n 21", lane.word(21), NONE);
        due("tape stays", lane.count(2), 20);
        due("first 4 bytes", lane.word(4), 0);
        due("tape empty", lane.count(2), 0);
        due("its bytes", lane.count(10), 4);
        StringBuilder text = new StringBuilder();
        for (int i = 0; i < 50; i++) {
            text.append("u").append(i % 3);
        }
        due("100 bytes", Checks.tell(lane, text.toString()), 1);
        Checks.feedText(lane, text + "x0");
        due("101 bytes", lane.word(101), NONE);
        due("tape stays", lane.count(2), 120);
        due("102 bytes", lane.word(Integer.MAX_VALUE), NONE);
        due("100 of 120", lane.word(100), 2);
        for (int w = 3; w < 16; w++) {
            due("word " + w, Checks.tell(lane, w % 2 == 0 ? "x0" : "" + (char) ('A' + w - 1)), w);
        }
        Checks.feedText(lane, "x0");
        due("a 17th", lane.word(2), NONE);
        due("tape stays", lane.count(2), 20);
        due("words", lane.count(1), 16);
        due("O is told anew", lane.change(15, 2), 15);
        due("P from O", Checks.tellAnew(lane, 15, "O*3"), 15);
        due("signs of P", lane.signs(15), 3);
    }

    private static void fault(MirrorLane lane, String text, int want) {
        due("word " + text, Checks.tell(lane, text), want);
        due("tape after " + text, lane.count(2), 0);
        due("words after " + text, lane.count(1), 1);
    }

    private static void faults() {
        MirrorLane lane = Checks.lane(3, "x0u1");
        fault(lane, "q", -1000);
        fault(lane, "Q", -1000);
        fault(lane, "x", -1001);
        fault(lane, "u(", -1001);
        fault(lane, "x0 ", -1002);
        fault(lane, "x01", -1002);
        fault(lane, "0", -1000);
        fault(lane, ")", -1000);
        fault(lane, "*3", -1000);
        fault(lane, "x0*", -1003);
        fault(lane, "x0*A", -1003);
        fault(lane, "x0*-1", -1003);
        fault(lane, "x0*1*2", -1004);
        fault(lane, "(x0", -1003);
        fault(lane, "((A)", -1004);
        fault(lane, "(", -1001);
        fault(lane, "(*2)", -1001);
        fault(lane, "()", -1001);
        fault(lane, "A)", -1001);
        fault(lane, "(A))", -1003);
        fault(lane, "x0()", -1003);
        fault(lane, "A(x0)*2(*3)", -1008);
        fault(lane, "\u00f8", -1000);
        fault(lane, "\u00f80", -1000);
        fault(lane, "X0", -1000);
        fault(lane, "x0*1234567890", -2012);
        fault(lane, "x0*0000000000", -2012);
        fault(lane, "A*000000001q", -1011);
        fault(lane, "x2", -3001);
        fault(lane, "u9", -3001);
        fault(lane, "B", -3000);
        fault(lane, "AP", -3001);
        fault(lane, "xx2", -1001);
        fault(lane, "x2x", -3001);
        fault(lane, "x0*1234567890x2", -2012);
        fault(lane, "(((((((", -4006);
        fault(lane, "((((((x0)(x0", -1012);
        fault(lane, "((((((x0)(x0(", -4012);
        fault(lane, "(A" + NINES + ")*501", -5000 - 17);
        fault(lane, "(A" + NINES + ")*501*2", -1017);
        due("six deep", Checks.tell(lane, "((((((x0)))(((u0))))))"), 1);
        due("just 10 to the 12", Checks.tell(lane, "(x0*1000000)*1000000"), 2);
        due("signs", lane.signs(2), 1000000000000L);
        due("one more", Checks.tell(lane, "Cx0"), -5003);
        due("far more, 0 times", Checks.tell(lane, "(((x0" + NINES + ")" + NINES + ")" + NINES + ")*0u1"), 3);
        due("signs", lane.signs(3), 1);
    }

    private static void change() {
        MirrorLane lane = Checks.lane(4, "x0", "Ax1", "B*2");
        Checks.feedText(lane, "u0");
        due("no such word", lane.change(3, 2), NONE);
        due("no such word", lane.change(-1, 2), NONE);
        due("no such n", lane.change(0, 0), NONE);
        due("no such n", lane.change(0, 101), NONE);
        due("not so many", lane.change(0, 21), NONE);
        due("tape stays", lane.count(2), 20);
        due("change", lane.change(0, 2), 0);
        due("tape empty", lane.count(2), 0);
        due("B goes by it", lane.joined(1, 0), 1);
        due("C goes by it", lane.joined(2, 0), 1);
        due("C's loops", lane.is(2, 1), 0);
        due("own letter", Checks.tellAnew(lane, 1, "B"), -3000);
        due("higher letter", Checks.tellAnew(lane, 1, "C"), -3000);
        due("tape empty", lane.count(2), 0);
        due("it stays", lane.count(11), 3);
        due("too many", Checks.tellAnew(lane, 1, "(A" + NINES + ")" + NINES), -5000 - 23);
        due("it stays", lane.signs(1), 2);
        due("cost", lane.cost(1, 7), true);
        due("lower letter", Checks.tellAnew(lane, 1, "AA"), 1);
        due("its bytes", lane.count(11), 2);
        due("its cost stays", lane.count(31), 7);
        due("C goes by it", lane.signs(2), 4);
        due("C's loops", lane.loops(2, 0), 3);
        due("words", lane.count(1), 3);
    }

    private static void roundAndCaps() {
        MirrorLane lane = Checks.lane(4, "x0*0", "u0u2", "u1", "x1");
        due("straight, round", lane.loops(0, 3), 4);
        due("caps like", Checks.caps(lane, 1, 0, 3, 2, 5, 4, 7, 6), true);
        due("tape empty", lane.count(2), 0);
        due("count(3)", lane.count(3), 1);
        due("straight", lane.loops(0, 3), 2);
        due("turned on both sides", lane.loops(1, 3), 4);
        due("turned in the middle", lane.loops(2, 3), 2 - 1);
        due("crossed in the middle", lane.loops(3, 3), 1);
        due("caps within caps", Checks.caps(lane, 3, 2, 1, 0, 5, 4, 7, 6), true);
        due("straight", lane.loops(0, 3), 1);
        due("turned on both sides", lane.loops(1, 3), 3);
        due("rule of turns", lane.rule(2, 1), 1);
        due("left", lane.left(2, 3), 4);
        due("round", lane.round(), true);
        due("round again", lane.round(), true);
        due("count(3)", lane.count(3), 0);
        due("straight, round", lane.loops(0, 3), 4);
        MirrorLane two = Checks.lane(2, "x0", "u0");
        two.feed(0x01000302, 9, 9, 9, 9);
        due("caps", two.caps(), true);
        due("the whole tape is empty", two.count(2), 0);
        due("crossed", two.loops(0, 3), 1);
        due("turned", two.loops(1, 3), 2);
    }

    private static void capsRefused() {
        MirrorLane lane = new MirrorLane();
        due("no bytes", lane.caps(), false);
        int[][] wrong = {
            {1, 0, 3, 2, 5, 4, 7, 7}, {0, 1, 2, 3, 4, 5, 6, 7}, {4, 5, 6, 7, 0, 1, 2, 3}, {1, 0, 3, 2, 1, 0, 3, 2},
            {1, 0, 3, 2, 5, 4, 7, 8}, {1, 0, 3, 255, 5, 4, 7, 6}, {1, 2, 3, 0, 5, 4, 7, 6}, {1, 0, 2, 3, 5, 4, 7, 6},
            {1, 0, 7, 4, 3, 6, 5, 2}, {1, 0, 3, 2, 7, 4, 5, 6}};
        for (int[] joints : wrong) {
            due("caps", Checks.caps(lane, joints), false);
            due("tape empty", lane.count(2), 0);
            due("still round", lane.count(3), 0);
        }
        due("caps", Checks.caps(lane, 2, 3, 0, 1, 7, 6, 5, 4), true);
        due("caps", Checks.caps(lane, 1, 0, 3, 2, 5, 4, 7, 7), false);
        due("the old ones stay", lane.count(3), 1);
        Checks.tell(lane, "x0*0");
        due("the old ones stay", lane.loops(0, 3), 1);
        for (int h = 3; h <= 5; h += 2) {
            MirrorLane odd = new MirrorLane();
            odd.rails(h);
            due("odd", Checks.caps(odd, 1, 0, 3, 2, 5, 4, 7, 6), false);
            due("tape stays", odd.count(2), 20);
            due("still round", odd.count(3), 0);
        }
    }

    private static void signs() {
        MirrorLane lane = Checks.lane(5, "x0", "x3*000", "(A" + NINES + "x0)*1000", "(A*9(BAu2)*2)*3");
        due("one", lane.signs(0), 1);
        due("none", lane.signs(1), 0);
        due("10 to the 12", lane.signs(2), 1000000000000L);
        due("together", lane.signs(3), 39);
        due("no such", lane.signs(4), NONE);
        due("no such", lane.signs(-1), NONE);
        due("no such", lane.signs(Integer.MIN_VALUE), NONE);
    }

    private static void joinedAndLength() {
        MirrorLane lane = Checks.lane(5, "x0u2x3", "u0*0", "x3" + NINES);
        // x0 crosses 0 and 1; u2 turns 2 to 3 and 7 to 8; x3 takes what comes on 3 from the right of u2 to 9
        int[] pair = {6, 5, 3, 2, 8, 1, 0, 9, 4, 7};
        long[] run = {1, 1, 1, 1, 1, 1, 1, 2, 1, 2};
        for (int e = 0; e < 10; e++) {
            due("joined " + e, lane.joined(0, e), pair[e]);
            due("length " + e, lane.length(0, e), run[e]);
            due("straight " + e, lane.joined(1, e), (e + 5) % 10);
            due("straight length " + e, lane.length(1, e), 0);
        }
        due("odd crossing", lane.joined(2, 3), 9);
        due("odd crossing", lane.length(2, 3), 999999999);
        due("beside it", lane.length(2, 2), 0);
        for (int e : new int[] {10, -1, Integer.MAX_VALUE}) {
            due("joined " + e, lane.joined(0, e), NONE);
            due("length " + e, lane.length(0, e), NONE);
        }
        due("no such word", lane.joined(3, 0), NONE);
        due("no such word", lane.joined(-1, 0), NONE);
        due("no such word", lane.length(3, 0), NONE);
        due("no such word", lane.length(-1, 0), NONE);
        MirrorLane three = Checks.lane(3, "u0u1u0");
        due("three rails", three.joined(0, 6), NONE);
        due("turned once", three.joined(0, 0), 1);
        due("straightened", three.joined(0, 2), 5);
        due("straightened", three.length(0, 2), 4);
    }

    private static void loops() {
        MirrorLane lane = Checks.lane(4, "x0", "u0u0u0", "u0x0u0x0x0u0", "u0u2" + NINES, "(u0u1u0u2)*2");
        long[][] due = {{0, 0, 0, 3}, {2, 2, 4, 5}, {2, 6, 6 + 4, 5}};
        for (int w = 0; w < due.length; w++) {
            for (int what = 0; what < 4; what++) {
                due("loops " + w + " " + what, lane.loops(w, what), due[w][what]);
            }
        }
        due("many loops", lane.loops(3, 0), 999999998);
        due("of length two", lane.loops(3, 1), 2);
        due("all together", lane.loops(3, 2), 2 * 999999998L);
        due("closed", lane.loops(3, 3), 999999998 + 2);
        // A ends in the turns 01 23, B begins with 03 12: one loop by four RAILS, C with the same turns: two loops
        MirrorLane four = Checks.lane(4, "u0u2", "u1u0u2", "AB", "A(u2u0)");
        due("one loop", four.loops(2, 0), 1);
        due("its length", four.loops(2, 1), 6);
        due("all together", four.loops(2, 2), 6);
        due("alike, written out", Checks.tell(four, "u0u2u1u0u2"), 4);
        due("alike, written out", four.both(2, 4, 0), 1);
        due("two loops", four.loops(3, 0), 2);
        due("their length", four.loops(3, 1), 2);
        due("all together", four.loops(3, 2), 4);
        due("no such", lane.loops(0, 4), NONE);
        due("no such", lane.loops(0, -1), NONE);
        due("no such", lane.loops(5, 0), NONE);
        due("no such", lane.loops(-1, 0), NONE);
    }

    private static void power() {
        MirrorLane lane = Checks.lane(5, "x0", "x0x1x2x3", "x0x1x3", "u0u1", "u0", "x0*0", "u0x1u2x3", "u0x1x2u3");
        int[][] due = {{1, 2}, {1, 5}, {1, 6}, {1, 1}, {1, 1}, {1, 1}};
        for (int w = 0; w < due.length; w++) {
            due("index " + w, lane.power(w, 0), due[w][0]);
            due("period " + w, lane.power(w, 1), due[w][1]);
        }
        // two threads come through one of it, none through two of it
        MirrorLane four = Checks.lane(4, "x2u1x0");
        due("index", four.power(0, 0), 2);
        due("period", four.power(0, 1), 1);
        due("index", Checks.lane(5, "x3u2x1x0").power(0, 0), 2);
        due("no such", lane.power(0, 2), NONE);
        due("no such", lane.power(0, -1), NONE);
        due("no such", lane.power(8, 0), NONE);
        due("no such", lane.power(-1, 1), NONE);
    }

    private static void rule() {
        // L of x0x1x3 (a ring of three, a ring of two): 2 3 4 3 2 5 by the six POWERS
        MirrorLane lane = Checks.lane(5, "x0x1x3", "u0", "x0*0", "x0u0x0u2*7");
        long[][] due = {{6, 0, 1}, {1, 1, 1}, {1, 0, 1}};
        for (int w = 0; w < due.length; w++) {
            for (int what = 0; what < 3; what++) {
                due("rule " + w + " " + what, lane.rule(w, what), due[w][what]);
            }
        }
        due("many loops each", lane.rule(3, 1), 8);
        due("no such", lane.rule(0, 3), NONE);
        due("no such", lane.rule(0, -1), NONE);
        due("no such", lane.rule(4, 0), NONE);
        due("no such", lane.rule(-1, 0), NONE);
        MirrorLane late = Checks.lane(4, "x2u1x0", "x2x1x0");
        due("p", late.rule(0, 0), 1);
        due("g", late.rule(0, 1), 1);
        due("m, though the INDEX is 2", late.rule(0, 2), 1);
        due("round, p", late.rule(1, 0), 4);
        due("by caps", Checks.caps(late, 1, 0, 3, 2, 7, 6, 5, 4), true);
        due("by caps, p below the PERIOD", late.rule(1, 0), 2);
        due("PERIOD", late.power(1, 1), 4);
    }

    private static void left() {
        MirrorLane lane = Checks.lane(5, "x0x1x3", "u0", "(u0" + NINES + ")*1000", "x0*0");
        int[] ring = {5, 2, 3, 4, 3, 2};
        for (int n = 1; n <= 30; n++) {
            due("left " + n, lane.left(0, n), ring[n % 6]);
            due("left of turns " + n, lane.left(1, n), n + 3);
        }
        due("left of all", lane.left(0, E18), ring[(int) (E18 % 6)]);
        due("left of turns", lane.left(1, E18), E18 + 3);
        due("left of nines", lane.left(2, 1), 999999999000L - 1 + 4);
        due("left of nines", lane.left(2, 2), 2 * 999999999000L + 3);
        due("the last below it", lane.left(2, 9000000), 8999999991000000003L);
        due("above it", lane.left(2, 9000001), TOP);
        due("far above it", lane.left(2, E18), TOP);
        due("straight", lane.left(3, E18), 5);
        due("no such n", lane.left(0, 0), NONE);
        due("no such n", lane.left(0, -1), NONE);
        due("no such n", lane.left(0, E18 + 1), NONE);
        due("no such n", lane.left(0, Long.MAX_VALUE), NONE);
        due("no such n", lane.left(0, Long.MIN_VALUE), NONE);
        due("no such word", lane.left(4, 1), NONE);
        due("no such word", lane.left(-1, 1), NONE);
    }

    private static void those() {
        MirrorLane lane = Checks.lane(5, "x0x1x3", "u0", "(u0" + NINES + ")*1000");
        due("ring of 3", lane.those(0, 3, 1, 12), 4);
        due("ring of 5", lane.those(0, 5, 1, 12), 2);
        due("ring of 5", lane.those(0, 5, 7, 11), 0);
        due("ring of 5", lane.those(0, 5, 6, 6), 1);
        due("ring of 5, all", lane.those(0, 5, 1, E18), E18 / 6);
        due("ring of 2, all", lane.those(0, 2, 1, E18), 333333333333333333L);
        due("ring of 1", lane.those(0, 1, 1, E18), 0);
        due("none", lane.those(0, 0, 1, E18), 0);
        due("turns", lane.those(1, 3, 1, E18), 0);
        due("turns", lane.those(1, E18, 1, E18), 1);
        due("turns", lane.those(1, E18, E18 - 3, E18 - 3), 1);
        due("turns", lane.those(1, E18, E18 - 2, E18), 0);
        due("nines", lane.those(2, 999999999000L * 1000000 + 3, 1, E18), 1);
        due("nines", lane.those(2, 999999999000L * 1000000 + 4, 1, E18), 0);
        due("nines", lane.those(2, 999999999000L * 1000000 + 3, 1000000, 1000000), 1);
        due("nines", lane.those(2, 999999999000L * 1000000 + 3, 1000001, E18), 0);
        // the third and ninth leave 3 + 1, the eighth and the last (even, none by three) 1 + 2
        due("one alone", lane.those(0, 4, 9, 9), 1);
        due("one alone", lane.those(0, 3, 8, 8), 1);
        due("one alone", lane.those(0, 3, 9, 9), 0);
        due("the last alone", lane.those(0, 3, E18, E18), 1);
        due("the last alone", lane.those(0, 4, E18, E18), 0);
        due("from above to", lane.those(0, 3, 9, 4), NONE);
        due("from above to", lane.those(0, 3, 2, 1), NONE);
        due("from above to", lane.those(0, 0, 2, 1), NONE);
        due("from above to", lane.those(1, 3, 3, 2), NONE);
        due("from above to", lane.those(1, E18, E18, E18 - 1), NONE);
        due("from above to", lane.those(0, 3, E18, 1), NONE);
        due("no such k", lane.those(0, -1, 1, 2), NONE);
        due("no such k", lane.those(0, E18 + 1, 1, 2), NONE);
        due("no such from", lane.those(0, 3, 0, 2), NONE);
        due("no such from", lane.those(0, 3, Long.MIN_VALUE, 2), NONE);
        due("no such to", lane.those(0, 3, 1, E18 + 1), NONE);
        due("no such to", lane.those(0, 3, 1, 0), NONE);
        due("no such to", lane.those(0, 3, 1, Long.MAX_VALUE), NONE);
        due("no such word", lane.those(3, 3, 1, 2), NONE);
        due("no such word", lane.those(-1, 3, 1, 2), NONE);
    }

    private static void first() {
        MirrorLane lane = Checks.lane(5, "x0x1x3", "u0", "(u0" + NINES + ")*1000", "u0x0*0");
        due("ring of 5", lane.first(0, 5), 6);
        due("ring of 4", lane.first(0, 4), 3);
        due("ring of 3", lane.first(0, 3), 2);
        due("ring of 2", lane.first(0, 2), 1);
        due("ring of 6", lane.first(0, 6), NONE);
        due("none", lane.first(0, 0), NONE);
        due("turns", lane.first(1, 4), 1);
        due("turns", lane.first(1, 3), NONE);
        due("turns", lane.first(1, E18), E18 - 3);
        due("nines", lane.first(2, 999999999000L * 1000000 + 3), 1000000);
        due("nines", lane.first(2, 999999999000L * 1000000 + 2), NONE);
        due("no such k", lane.first(0, -1), NONE);
        due("no such k", lane.first(1, E18 + 1), NONE);
        due("no such word", lane.first(4, 5), NONE);
        due("no such word", lane.first(-1, 5), NONE);
        MirrorLane two = Checks.lane(2, "x0u0x0");
        due("the last POWER of all", two.first(0, E18), E18);
        due("behind the last", Checks.lane(2, "u0").first(0, E18), E18);
        due("two pairs of caps", Checks.caps(two, 1, 0, 3, 2), true);
        due("by caps", two.first(0, E18), E18 - 1);
        due("by caps", two.first(0, 2), 1);
    }

    private static void both() {
        MirrorLane lane = Checks.lane(4, "x0", "x2", "x0x1x0", "x1x0x1", "u0", "u0u0", "x0x0", "u0u1u0", "x0*0");
        int[][] alike = {{2, 3}, {4, 7}, {6, 8}};
        for (int[] two : alike) {
            due("alike", lane.both(two[0], two[1], 0), 1);
            due("alike", lane.both(two[1], two[0], 0), 1);
        }
        due("not alike", lane.both(0, 1, 0), 0);
        due("not alike: one loop", lane.both(4, 5, 0), 0);
        due("like itself", lane.both(5, 5, 0), 1);
        due("change places", lane.both(0, 1, 1), 1);
        due("change places", lane.both(4, 5, 1), 1);
        due("don't change places", lane.both(0, 2, 1), 0);
        due("takes up", lane.both(4, 0, 2), 1);
        due("takes up", lane.both(4, 1, 2), 0);
        due("takes up not: one loop more", lane.both(4, 4, 2), 0);
        due("takes up", lane.both(5, 8, 2), 1);
        due("undoes", lane.both(0, 0, 3), 1);
        due("undoes", lane.both(2, 3, 3), 1);
        due("undoes not", lane.both(4, 4, 3), 0);
        due("undoes not", lane.both(0, 1, 3), 0);
        due("no such", lane.both(0, 1, 4), NONE);
        due("no such", lane.both(0, 1, -1), NONE);
        due("no such", lane.both(0, 9, 0), NONE);
        due("no such", lane.both(9, 0, 0), NONE);
        due("no such", lane.both(-1, 0, 0), NONE);
        due("no such", lane.both(0, -1, 0), NONE);
        MirrorLane two = Checks.lane(2, "u0", "x0u0");
        due("takes up, but for the loops", two.both(0, 1, 2), 0);
    }

    private static void is() {
        MirrorLane lane = Checks.lane(4, "x0", "u0", "x0u0", "x0*0", "A*2", "(x0u0)*0u1", "D", "(u2)", "Cx0*0", "x0*1");
        int[][] due = {
            {0, 1, 1}, {1, 0, 1}, {0, 0, 1}, {1, 1, 0}, {0, 1, 0}, {1, 0, 0}, {1, 1, 0}, {1, 0, 0}, {0, 0, 0},
            {0, 1, 0}};
        for (int w = 0; w < due.length; w++) {
            for (int what = 0; what < 3; what++) {
                due("is " + w + " " + what, lane.is(w, what), due[w][what]);
            }
            due("is " + w + " too long", lane.is(w, 3), 0);
        }
        due("no such", lane.is(0, 4), NONE);
        due("no such", lane.is(0, -1), NONE);
        due("no such", lane.is(10, 0), NONE);
        due("no such", lane.is(-1, 3), NONE);
    }

    private static void tooLong() {
        MirrorLane lane = Checks.lane(4, "x0", "A" + NINES, "B*9", "C*0u0", "Bu1", "C*100");
        due("anew", Checks.tellAnew(lane, 0, "x0*1002"), 0);
        due("too long", lane.is(1, 3), 1);
        due("signs", lane.signs(1), 1001999998998L);
        due("level", lane.is(1, 0), 0);
        due("crossed", lane.is(1, 1), 1);
        due("plain", lane.is(1, 2), 0);
        due("crossed not", lane.is(4, 1), 0);
        due("0 times", lane.is(3, 3), 0);
        due("0 times", lane.joined(3, 0), 1);
        due("anew", Checks.tellAnew(lane, 0, "(x0*9)" + NINES), 0);
        due("not itself", lane.is(0, 3), 0);
        due("signs", lane.signs(1), 8999999982000000009L);
        due("signs at the top", lane.signs(2), TOP);
        due("signs at the top", lane.signs(5), TOP);
        due("joined", lane.joined(1, 0), NONE);
        due("length", lane.length(1, 0), NONE);
        due("loops", lane.loops(1, 0), NONE);
        due("loops", lane.loops(1, 3), NONE);
        due("power", lane.power(1, 0), NONE);
        due("rule", lane.rule(1, 0), NONE);
        due("left", lane.left(1, 1), NONE);
        due("those", lane.those(1, 1, 1, 1), NONE);
        due("first", lane.first(1, 1), NONE);
        due("both", lane.both(1, 0, 0), NONE);
        due("both", lane.both(0, 1, 0), NONE);
        due("many", lane.many(2, 1, 1), NONE);
        due("many", lane.many(3, 1, 1), NONE);
        due("many of others", lane.many(1, 1, 3), 1);
        due("made", lane.made(3), NONE);
        due("shortest", lane.shortest(3, 3, NONE), NONE);
        due("cheapest by it", lane.cheapest(2, 0, NONE), NONE);
        due("cheapest for it", lane.cheapest(1, 1, NONE), NONE);
        due("mend", lane.mend(1), NONE);
        due("walk", lane.walk(1, 0, NONE), NONE);
        Checks.feed(lane, 5, 4, 6, 7, 1, 0, 2, 3);
        due("check", lane.check(1), -2);
        due("tape stays", lane.count(2), 20);
        due("back", lane.back(1), 0);
        due("cost", lane.cost(1, 2), true);
        due("count", lane.count(31), 2);
        due("count", lane.count(11), 11);
        due("with it", Checks.tell(lane, "B"), -5001);
        due("with it 0 times", Checks.tell(lane, "Bx1*0"), -5005);
        due("all of it 0 times", Checks.tell(lane, "(Bx1)*0"), 6);
        due("back never", Checks.back(lane, 3), 1 << 3 | 1);
        due("short again", Checks.tellAnew(lane, 0, "x0"), 0);
        due("short again", lane.joined(1, 0), 5);
        due("made", lane.made(3), 2);
    }

    private static void many() {
        MirrorLane lane = Checks.lane(2, "x0", "u0", "A*0", "u0u0u0");
        // x alone: two loops by even numbers, one by odd ones
        due("x", lane.many(1, 1, 1), 1);
        due("x", lane.many(1, 2, 2), 1);
        due("x", lane.many(1, 1000, 2), 1);
        due("x", lane.many(1, 1000, 1), 0);
        due("u, two", lane.many(2, 2, 2), 1);
        due("u, three", lane.many(2, 3, 3), 1);
        due("u, four", lane.many(2, 4, 3), 0);
        due("straight and x", lane.many(5, 1000, 1), powerOfTwo(999));
        due("straight and x", lane.many(5, 10, 2), 512);
        due("straight and x", lane.many(5, 9, 1), 256);
        due("none", lane.many(5, 10, 0), 0);
        due("two loops within", lane.many(8, 1, 3), 1);
        due("five loops within", lane.many(8, 2, 3), 0);
        due("longer", lane.many(3, 2, 1), 2);
        due("shorter", lane.many(3, 1, 1), 2);
        due("longer", lane.many(3, 3, 2), 3);
        due("other closing", Checks.caps(lane, 1, 0, 3, 2), true);
        due("by caps", lane.many(3, 2, 1), 1);
        due("by caps", lane.many(3, 2, 3), 1);
        due("told anew", Checks.tellAnew(lane, 1, "x0"), 1);
        due("told anew", lane.many(3, 2, 1), 4);
        due("no such n", lane.many(1, 0, 1), NONE);
        due("no such n", lane.many(1, 1001, 1), NONE);
        due("no such k", lane.many(1, 1, 4), NONE);
        due("no such k", lane.many(1, 1, -1), NONE);
        letters(new MirrorLane(), 0);
    }

    private static long powerOfTwo(int n) {
        long power = 1;
        for (int i = 0; i < n; i++) {
            power = power * 2 % 998244353;
        }
        return power;
    }

    /** Sets of LETTERS that are none: for all four calls that take one. */
    private static void letters(MirrorLane lane, int made) {
        for (int w = 0; w < 8; w++) {
            Checks.tell(lane, "x" + w % 3);
        }
        int[] none = {0, -1, 1 << 8, Integer.MIN_VALUE, 0x7f, 0xff, 1 << 16, Integer.MAX_VALUE, (1 << 8) + 1};
        for (int set : none) {
            due("many of " + set, lane.many(set, 1, 1), NONE);
            due("made of " + set, lane.made(set), NONE);
            due("shortest of " + set, lane.shortest(set, 3, NONE), NONE);
            due("cheapest of " + set, lane.cheapest(set, 0, NONE), NONE);
        }
        due("six", lane.made(0x3f), 24);
        due("six", lane.made(0xfc), 24);
        due("six", lane.many(0x3f, 1, 3), 6);
    }

    private static void made() {
        MirrorLane lane = Checks.lane(5, "x0", "x1", "x2", "x3", "u0", "x0*0", "u1", "u2", "u3");
        due("crossings", lane.made(15), 120);
        due("all", lane.made(31), 945);
        due("turns", lane.made(1 << 4 | 1 << 6 | 1 << 7 | 1 << 8), 41);
        due("straight", lane.made(32), 1);
        due("turns and straight", lane.made(1 << 4 | 1 << 5 | 1 << 6 | 1 << 7 | 1 << 8), 42);
        due("one crossing", lane.made(1), 2);
        due("one turn", lane.made(16), 1);
        due("told anew", Checks.tellAnew(lane, 0, "x0x1x2x3"), 0);
        due("ring", lane.made(1), 5);
    }

    private static void shortest() {
        MirrorLane lane = Checks.lane(3, "x0", "x1", "x0*0", "u0", "u0u0");
        int[][] due = {
            {3, 1, 0, 1}, {3, 2, 0}, {3, 3, 0, 0}, {7, 3, 2}, {7, 1, 0, 1}, {3, 0}, {6, 1}, {8, 3, 3, 3}, {24, 3, 4},
            {27, 1, 0, 1}, {26, 1, 1, 3}, {10, 3, 1, 1}, {16, 3, 4}, {8, 1}};
        for (int[] row : due) {
            int size = row.length - 2;
            String call = "shortest " + row[0] + " for " + row[1];
            due(call, lane.shortest(row[0], row[1], NONE), size == 0 ? NONE : size);
            for (int i = 0; i < size; i++) {
                due(call + " " + i, lane.shortest(row[0], row[1], i), row[i + 2]);
            }
            due(call + " behind", lane.shortest(row[0], row[1], size), NONE);
        }
        due("no such what", lane.shortest(3, 2, -2), NONE);
        due("no such what", lane.shortest(3, 2, Integer.MAX_VALUE), NONE);
        due("no such k", lane.shortest(3, -1, NONE), NONE);
        due("no such k", lane.shortest(3, 4, NONE), NONE);
        MirrorLane four = Checks.lane(4, "x0*0", "u0u0");
        due("straight leaves four", four.loops(0, 3), 4);
        due("no such k", four.shortest(1, 4, NONE), NONE);
        due("no such k", four.shortest(3, 4, 0), NONE);
        due("none that leaves three", four.shortest(1, 3, NONE), NONE);
    }

    private static void cost() {
        MirrorLane lane = Checks.lane(4, "x0", "u0");
        due("at first", lane.count(30), 1);
        due("cost", lane.cost(0, 1000), true);
        due("count", lane.count(30), 1000);
        due("the other one's", lane.count(31), 1);
        due("cost", lane.cost(0, 1), true);
        due("count", lane.count(30), 1);
        due("no such cost", lane.cost(0, 0), false);
        due("no such cost", lane.cost(0, 1001), false);
        due("no such cost", lane.cost(0, -5), false);
        due("no such word", lane.cost(2, 5), false);
        due("no such word", lane.cost(-1, 5), false);
        due("count", lane.count(30), 1);
    }

    private static void cheapest(MirrorLane lane, int set, int w, int... row) {
        String call = "cheapest " + set + " for " + w;
        int size = row.length - 1;
        due(call + " cost", lane.cheapest(set, w, -2), row[0]);
        due(call + " letters", lane.cheapest(set, w, NONE), row[0] == NONE ? NONE : size);
        for (int i = 0; i < size; i++) {
            due(call + " at " + i, lane.cheapest(set, w, i), row[i + 1]);
        }
        due(call + " behind", lane.cheapest(set, w, size), NONE);
    }

    private static void cheapest() {
        MirrorLane lane = Checks.lane(3, "x0", "x1", "x0x1x0", "x0*0", "u0", "u0u0", "x0x1");
        cheapest(lane, 3, 2, 3, 0, 1, 0);
        cheapest(lane, 3, 3, 2, 0, 0);
        cheapest(lane, 11, 3, 1, 3);
        cheapest(lane, 3, 4, NONE);
        cheapest(lane, 16, 5, 1, 4);
        cheapest(lane, 7, 2, 1, 2);
        lane.cost(2, 4);
        cheapest(lane, 7, 2, 3, 0, 1, 0);
        lane.cost(2, 3);
        cheapest(lane, 7, 2, 3, 2);
        lane.cost(0, 1000);
        lane.cost(2, 1000);
        cheapest(lane, 3, 2, 1002, 1, 0, 1);
        cheapest(lane, 7, 2, 1000, 2);
        cheapest(lane, 6, 0, 1002, 1, 2, 1);
        cheapest(lane, 7, 0, 1000, 0);
        cheapest(lane, 64, 3, 3, 6, 6, 6);
        cheapest(lane, 3, 3, 2, 1, 1);
        // three of the cheap ring; from its first POWER to its second, which is a LETTER, too, but a dear one
        MirrorLane ring = Checks.lane(5, "x0x1x2x3x0x1x2x3", "x0x1x2x3", "B*3");
        due("cost", ring.cost(0, 1000), true);
        cheapest(ring, 3, 2, 3, 1, 1, 1);
        cheapest(ring, 3, 0, 2, 1, 1);
        // six POWERS, the first one cheap, the fifth dear: the fourth is cheapest by the third
        MirrorLane six = Checks.lane(5, "x0x1x3", "A*5", "A*4");
        due("cost", six.cost(1, 1000), true);
        cheapest(six, 3, 2, 4, 0, 0, 0, 0);
        due("cost", six.cost(1, 2), true);
        cheapest(six, 3, 2, 4, 1, 1);
        due("no such what", lane.cheapest(3, 2, -3), NONE);
        due("no such what", lane.cheapest(3, 2, Integer.MAX_VALUE), NONE);
        due("no such word", lane.cheapest(3, 7, NONE), NONE);
        due("no such word", lane.cheapest(3, -1, NONE), NONE);
    }

    private static void mend() {
        MirrorLane lane = Checks.lane(2, "x0", "u0", "u0u0", "x0x0x0x0x0x0x0x0x0x0", "(x0)", "x0x0x0x0x0x0x0x0x0x0x0", "A");
        due("round: none", lane.mend(0), -2);
        due("round: none", lane.mend(3), -2);
        due("by caps", Checks.caps(lane, 1, 0, 3, 2), true);
        due("stays", lane.mend(0), 0);
        due("turn to cross", lane.mend(1), 1);
        due("both", lane.mend(2), 3);
        due("stays", lane.mend(3), 0);
        due("not plain", lane.mend(4), NONE);
        due("eleven", lane.mend(5), NONE);
        due("not plain", lane.mend(6), NONE);
        due("no such", lane.mend(7), NONE);
        due("no such", lane.mend(-1), NONE);
        due("told anew", Checks.tellAnew(lane, 5, "u0u0u0u0u0u0u0u0u0u0"), 5);
        due("all of ten", lane.mend(5), 1023);
        MirrorLane four = Checks.lane(4, "x1u1", "u1x1");
        // from the caps 01 23 to the caps 01 23 the second POWER of each of the four leaves two
        due("by caps", Checks.caps(four, 1, 0, 3, 2, 5, 4, 7, 6), true);
        due("none of four", four.mend(0), -2);
        due("none of four", four.mend(1), -2);
        // three RAILS, round: u0u1, u0x1 and x0u1 are their own POWERS and leave one LOOP, x0x1 three by its third
        MirrorLane three = Checks.lane(3, "u0u1", "x0x1", "u0x1", "x0u1", "x1x0", "x0x0", "x0");
        int[] due = {0, 1, 0, 0, 1, -2, -2};
        for (int w = 0; w < due.length; w++) {
            due("mend " + w, three.mend(w), due[w]);
        }
    }

    private static void back() {
        MirrorLane lane = Checks.lane(2, "x0", "u0", "x0*0", "u0u0", "(u0*3)" + NINES);
        due("1", Checks.back(lane, 1), 3);
        due("1 2", Checks.back(lane, 1, 2), 3);
        due("1 2 1", Checks.back(lane, 1, 2, 1), 1);
        due("1 2 3", Checks.back(lane, 1, 2, 3), 2);
        due("2 2", Checks.back(lane, 2, 2), 4);
        due("2 4 6 8 10 12 14 16", Checks.back(lane, 2, 4, 6, 8, 10, 12, 14, 16), 8);
        due("2 4 6 8 10 12 14 17", Checks.back(lane, 2, 4, 6, 8, 10, 12, 14, 17), 0);
        due("0", Checks.back(lane, 0), 0);
        due("-1", Checks.back(lane, -1), 0);
        due("2999999997", Checks.back(lane, (int) 2999999997L), 16);
        due("tape empty", lane.count(2), 0);
        due("not so many", lane.back(1), NONE);
        lane.feed(1, 2, 1, 2, 1);
        due("n 0", lane.back(0), NONE);
        due("n -1", lane.back(-1), NONE);
        due("n 9", lane.back(9), NONE);
        due("n 6", lane.back(6), NONE);
        due("tape stays", lane.count(2), 20);
        due("n 5", lane.back(5), 1);
        due("tape empty", lane.count(2), 0);
        lane.feed(1, 2, 1, 2, 1);
        lane.feed(1, 2, 1, 2, 1);
        due("n 9", lane.back(9), NONE);
        due("n max", lane.back(Integer.MAX_VALUE), NONE);
        due("tape stays", lane.count(2), 40);
        due("by caps", Checks.caps(lane, 1, 0, 3, 2), false);
        due("by caps", Checks.caps(lane, 1, 0, 3, 2), true);
        due("1 1 1", Checks.back(lane, 1, 1, 1), 5);
        due("no words", Checks.back(new MirrorLane(), 4), 0);
    }

    private static void walk() {
        MirrorLane lane = Checks.lane(3, "x0u1x0", "(x0u1)*2(x1*9)*0u0", "A*0", "u0*0(x0*99999999)*0x1");
        for (int e = 0; e < 6; e++) {
            walk(lane, 0, e, lane.joined(0, e), walkOf("x0u1x0", e));
            walk(lane, 1, e, lane.joined(1, e), walkOf("x0u1x0u1u0", e));
            walk(lane, 2, e, (e + 3) % 6, new int[0]);
            walk(lane, 3, e, lane.joined(3, e), walkOf("x1", e));
        }
        due("no such end", lane.walk(0, 6, NONE), NONE);
        due("no such end", lane.walk(0, -1, NONE), NONE);
        due("no such what", lane.walk(0, 0, -2), NONE);
        due("no such what", lane.walk(0, 0, Integer.MAX_VALUE), NONE);
        due("no such word", lane.walk(4, 0, NONE), NONE);
        due("no such word", lane.walk(-1, 0, NONE), NONE);
        due("told anew", Checks.tellAnew(lane, 0, "x1"), 0);
        walk(lane, 0, 1, 5, new int[] {0});
        MirrorLane letters = Checks.lane(3, "x0", "AA", "(Bx1)*2");
        walk(letters, 2, 0, letters.joined(2, 0), walkOf("x0x0x1x0x0x1", 0));
        due("told anew", Checks.tellAnew(letters, 0, "u0"), 0);
        walk(letters, 2, 2, letters.joined(2, 2), walkOf("u0u0x1u0u0x1", 2));
        MirrorLane nested = Checks.lane(3, "x1(x0(u1x0)*2x1)*2", "x1((x0)*2(x1*0u0)*3)*2u1");
        for (int e = 0; e < 6; e++) {
            walk(nested, 0, e, nested.joined(0, e), walkOf("x1x0u1x0u1x0x1x0u1x0u1x0x1", e));
            walk(nested, 1, e, nested.joined(1, e), walkOf("x1x0x0u0u0u0x0x0u0u0u0u1", e));
        }
    }

    private static int[] walkOf(String plain, int e) {
        SlowLane slow = new SlowLane(3);
        slow.texts.add(plain);
        return slow.draw(slow.row(0)).walks.get(e).stream().mapToInt(i -> i).toArray();
    }

    private static void walk(MirrorLane lane, int w, int e, int out, int[] places) {
        due("walk " + w + " " + e, lane.walk(w, e, NONE), out);
        for (int i = 0; i < places.length; i++) {
            due("walk " + w + " " + e + " " + i, lane.walk(w, e, i), places[i]);
        }
        due("walk " + w + " " + e + " behind", lane.walk(w, e, places.length), NONE);
    }

    private static void longWalk() {
        MirrorLane lane = Checks.lane(5, "x3*2000", "A*1x0", "A*0x0*2000", "u0x3*1999", "x3*1999u3", "B*0");
        due("2000", lane.walk(0, 4, 1999), 1999);
        due("2000", lane.walk(0, 8, 1999), 0);
        due("2000", lane.walk(0, 4, NONE), 9);
        due("2000", lane.walk(0, 4, 2000), NONE);
        due("2001", lane.walk(1, 4, 0), NONE);
        due("2001", lane.walk(1, 4, NONE), NONE);
        due("2000 behind nothing", lane.walk(2, 0, 1999), 1999);
        due("behind a turn", lane.walk(3, 3, 1998), 1999);
        due("there and back", lane.walk(4, 3, 1999), 1999);
        due("there and back", lane.walk(4, 3, 2000), 1998);
        due("there and back", lane.walk(4, 3, 3998), 0);
        due("there and back", lane.walk(4, 3, 3999), NONE);
        due("there and back", lane.walk(4, 3, NONE), 4);
        due("nothing of what is too long", lane.walk(5, 3, NONE), 8);
        due("nothing of what is too long", lane.walk(5, 3, 0), NONE);
    }

    private static void check() {
        MirrorLane lane = Checks.lane(3, "x0u1");
        // x0 lets 0 come to 1, which u1 turns to 2
        int[] right = {2, 3, 0, 1, 5, 4};
        for (int e = 0; e < 6; e++) {
            due("joined " + e, lane.joined(0, e), right[e]);
        }
        Checks.feed(lane, right);
        due("right", lane.check(0), NONE);
        due("tape empty", lane.count(2), 0);
        for (int e = 0; e < 6; e++) {
            int[] wrong = right.clone();
            wrong[e] = 200 + e;
            wrong[5] = 9;
            Checks.feed(lane, wrong);
            due("wrong at " + e, lane.check(0), e);
            due("tape empty", lane.count(2), 0);
        }
        due("no bytes", lane.check(0), -2);
        lane.feed(0, 0, 0, 0, 0);
        due("no such word", lane.check(1), -2);
        due("no such word", lane.check(-1), -2);
        due("tape stays", lane.count(2), 20);
    }

    private static void count() {
        MirrorLane lane = Checks.lane(5, "x0", "Ax3*7", "u2u3");
        int[][] due = {
            {0, 5}, {1, 3}, {2, 0}, {3, 0}, {10, 2}, {11, 5}, {12, 4}, {13, NONE}, {25, NONE}, {26, NONE}, {29, NONE},
            {30, 1}, {31, 1}, {32, 1}, {33, NONE}, {45, NONE}, {46, NONE}, {4, NONE}, {9, NONE}, {-1, NONE},
            {Integer.MIN_VALUE, NONE}, {Integer.MAX_VALUE, NONE}};
        for (int[] row : due) {
            due("count " + row[0], lane.count(row[0]), row[1]);
        }
        for (int w = 3; w < 16; w++) {
            Checks.tell(lane, "x" + w % 4);
            lane.cost(w, w);
        }
        for (int w = 3; w < 16; w++) {
            due("bytes of " + w, lane.count(10 + w), 2);
            due("cost of " + w, lane.count(30 + w), w);
        }
        for (int what = 26; what < 30; what++) {
            due("count " + what, lane.count(what), NONE);
        }
        due("count 46", lane.count(46), NONE);
    }
}
