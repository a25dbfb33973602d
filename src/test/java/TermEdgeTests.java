import java.util.Arrays;
import java.util.List;

/**
 * The sentences of the document's "Terms" that name a boundary case, each with a test of its own: the first and the
 * last that is taken, the one below and the one above.
 */
public final class TermEdgeTests {
    private static final int NONE = MirrorLane.NONE;
    private static final long E12 = 1000000000000L;
    private static final long E18 = 1000000000000000000L;

    private static String sentence = "";

    private TermEdgeTests() {
    }

    public static void main(String[] args) {
        railsTwoToFive();
        endsOfBothSides();
        digitOfSign();
        signsJoin();
        sixteenWords();
        hundredBytes();
        noBlanks();
        oneItemAtLeast();
        lettersAToP();
        lowerNumberAlone();
        oneToNineDigits();
        noneOfIt();
        toldAnew();
        whatCannotStandThere();
        tenthDigit();
        digitOrLetterThatCannotBe();
        seventhOpen();
        tooManySigns();
        asTheyAreNow();
        firstFromTheLeft();
        lengths();
        alikeLengthsAside();
        tooLong();
        tooLongNothingElse();
        closedByCaps();
        indexAndPeriod();
        theRule();
        thoseWithK();
        levelAndCrossed();
        oneToSixLetters();
        modulus();
        made();
        theShortest();
        costs();
        theCheapest();
        plain();
        theMend();
        toldBack();
        theWalk();
        checkOfPairs();
        callsOfOneObject();
        Checks.end();
    }

    private static void sentence(String words) {
        sentence = "\"" + words + "\": ";
    }

    private static void due(String call, long got, long want) {
        Checks.due(sentence + call, got, want);
    }

    private static void due(String call, boolean got, boolean want) {
        Checks.due(sentence + call, got, want);
    }

    private static void tell(MirrorLane lane, String text, int want) {
        due("word " + text, Checks.tell(lane, text), want);
    }

    private static void anew(MirrorLane lane, int w, String text, int want) {
        due("change " + w + " " + text, Checks.tellAnew(lane, w, text), want);
    }

    /** A FAULT of a WORD that is to be WORD 1 of a lane that has x0u1 already; it is not told then. */
    private static void fault(int h, String text, int want) {
        MirrorLane lane = Checks.lane(h, h == 2 ? "x0u0" : "x0u1");
        tell(lane, text, want);
        due("words after " + text, lane.count(1), want < 0 ? 1 : 2);
        due("tape after " + text, lane.count(2), 0);
    }

    private static void pairs(MirrorLane lane, int w, int... pair) {
        for (int e = 0; e < pair.length; e++) {
            due("joined " + w + " " + e, lane.joined(w, e), pair[e]);
        }
    }

    private static void straight(MirrorLane lane, int w, int h) {
        for (int e = 0; e < 2 * h; e++) {
            due("joined " + w + " " + e, lane.joined(w, e), (e + h) % (2 * h));
            due("length " + w + " " + e, lane.length(w, e), 0);
        }
        due("loops " + w, lane.loops(w, 0), 0);
        due("loops closed " + w, lane.loops(w, 3), h);
    }

    private static String repeat(String text, int times) {
        StringBuilder all = new StringBuilder();
        for (int i = 0; i < times; i++) {
            all.append(text);
        }
        return all.toString();
    }

    // ---- the lane and its words

    private static void railsTwoToFive() {
        sentence("A LANE has H RAILS (2 to 5)");
        MirrorLane lane = new MirrorLane();
        due("rails 2", lane.rails(2), true);
        due("rails 1", lane.rails(1), false);
        due("count(0)", lane.count(0), 2);
        due("rails 5", lane.rails(5), true);
        due("rails 6", lane.rails(6), false);
        due("count(0)", lane.count(0), 5);
    }

    private static void endsOfBothSides() {
        sentence("ENDS: on the left 0 to H less 1, on the right H to 2 H less 1 (H and the RAIL)");
        for (int h = 2; h <= 5; h++) {
            MirrorLane lane = Checks.lane(h, "x0*0");
            due("first left", lane.joined(0, 0), h);
            due("last left", lane.joined(0, h - 1), 2 * h - 1);
            due("first right", lane.joined(0, h), 0);
            due("last right", lane.joined(0, 2 * h - 1), h - 1);
            due("below", lane.joined(0, -1), NONE);
            due("above", lane.joined(0, 2 * h), NONE);
        }
    }

    private static void digitOfSign() {
        sentence("a SIGN (x or u, and a digit: 0 to H less 2)");
        for (int h = 2; h <= 5; h++) {
            for (String sign : new String[] {"x", "u"}) {
                fault(h, sign + 0, 1);
                fault(h, sign + (h - 2), 1);
                fault(h, sign + (h - 1), -3001);
                fault(h, sign + 9, -3001);
                fault(h, sign + (char) ('0' - 1), -1001);
                fault(h, sign + (char) ('9' + 1), -1001);
            }
        }
    }

    private static void signsJoin() {
        sentence("RAILS i and i + 1 cross; what comes on i goes back on i + 1 on that side, on both sides");
        for (int h = 2; h <= 5; h++) {
            MirrorLane lane = Checks.lane(h, "x0", "u0", "x" + (h - 2), "u" + (h - 2));
            due("x0", lane.joined(0, 0), h + 1);
            due("x0, the other way round", lane.joined(0, 1), h);
            due("u0, left", lane.joined(1, 0), 1);
            due("u0, right", lane.joined(1, h), h + 1);
            due("last x", lane.joined(2, h - 2), 2 * h - 1);
            due("last x, the other way round", lane.joined(2, h - 1), 2 * h - 2);
            due("last u, left", lane.joined(3, h - 2), h - 1);
            due("last u, right", lane.joined(3, 2 * h - 2), 2 * h - 1);
        }
        MirrorLane five = Checks.lane(5, "x1", "u2");
        pairs(five, 0, 5, 7, 6, 8, 9, 0, 2, 1, 3, 4);
        pairs(five, 1, 5, 6, 3, 2, 9, 0, 1, 8, 7, 4);
    }

    private static void sixteenWords() {
        sentence("WORDS 0 to 15");
        MirrorLane lane = new MirrorLane();
        due("signs of the first", lane.signs(0), NONE);
        for (int w = 0; w < 16; w++) {
            due("signs of the next", lane.signs(w), NONE);
            tell(lane, repeat("x0", w + 1), w);
            due("signs of it", lane.signs(w), w + 1);
            due("count(1)", lane.count(1), w + 1);
        }
        tell(lane, "x0", NONE);
        due("count(1)", lane.count(1), 16);
        due("signs of a 17th", lane.signs(16), NONE);
        due("signs of the last", lane.signs(15), 16);
    }

    private static void hundredBytes() {
        sentence("each a TEXT of at most 100 bytes");
        MirrorLane lane = new MirrorLane();
        String hundred = repeat("x0u1", 25);
        Checks.feedText(lane, hundred + "x0");
        due("word(101)", lane.word(101), NONE);
        due("word(102)", lane.word(102), NONE);
        due("count(2)", lane.count(2), 120);
        due("word(100)", lane.word(100), 0);
        due("count(10)", lane.count(10), 100);
        due("signs", lane.signs(0), 50);
        Checks.feedText(lane, hundred + "x0");
        due("change(0, 101)", lane.change(0, 101), NONE);
        due("change(0, 100)", lane.change(0, 100), 0);
        anew(lane, 0, "x0" + repeat("(", 6) + repeat("x0", 45) + ")q", -1099);
        tell(lane, repeat("A", 100), 1);
        due("signs", lane.signs(1), 5000);
        tell(lane, "A", 2);
        due("count(12)", lane.count(12), 1);
    }

    private static void noBlanks() {
        sentence("a TEXT .., no blanks");
        String[] texts = {" x0", "x 0", "x0 ", "x0 *2", "x0* 2", "x0*2 ", "( x0)", "(x0 )", "A A"};
        int[] places = {0, 1, 2, 2, 3, 4, 1, 3, 1};
        for (int i = 0; i < texts.length; i++) {
            fault(4, texts[i], -1000 - places[i]);
        }
        for (char c : new char[] {0, 9, 10, 13, 32, 160}) {
            fault(4, "x0" + c, -1002);
            fault(4, c + "x0", -1000);
        }
    }

    private static void oneItemAtLeast() {
        sentence("ITEMS one behind the other, one at least");
        fault(4, "x0", 1);
        fault(4, "A", 1);
        fault(4, "(A)", 1);
        fault(4, "x0*0", 1);
        fault(4, "AAx0u2(A)A", 1);
        fault(4, "()", -1001);
        fault(4, "x0()", -1003);
        fault(4, "(())", -1002);
        fault(4, "(", -1001);
        fault(4, "((", -1002);
        fault(4, "(x0", -1003);
        MirrorLane lane = new MirrorLane();
        lane.feed(0, 0, 0, 0, 0);
        due("no byte", lane.word(0), NONE);
    }

    private static void lettersAToP() {
        sentence("a letter A to P: WORD 0 to 15");
        MirrorLane lane = new MirrorLane();
        for (int w = 0; w < 15; w++) {
            tell(lane, repeat("x0", w + 1), w);
        }
        for (char letter = 'A'; letter <= 'O'; letter++) {
            if (letter == 'A') {
                tell(lane, "A", 15);
            } else {
                anew(lane, 15, "" + letter, 15);
            }
            due("signs of " + letter, lane.signs(15), letter - 'A' + 1);
        }
        anew(lane, 15, "P", -3000);
        for (char none : new char[] {'@', 'Q', 'Z', 'a', 'o', 'p', 'w', 'v', 'y', 't', 'X', 'U', 'A' + 128}) {
            anew(lane, 15, "" + none, -1000);
        }
        due("it stays", lane.signs(15), 15);
    }

    private static void lowerNumberAlone() {
        sentence("one told ahead of this WORD's number");
        MirrorLane lane = new MirrorLane();
        tell(lane, "A", -3000);
        tell(lane, "x0", 0);
        tell(lane, "B", -3000);
        tell(lane, "C", -3000);
        tell(lane, "P", -3000);
        tell(lane, "A", 1);
        tell(lane, "B", 2);
        anew(lane, 1, "B", -3000);
        anew(lane, 1, "AC", -3001);
        anew(lane, 1, "AA", 1);
        anew(lane, 0, "A", -3000);
        anew(lane, 2, "BA", 2);
        anew(lane, 2, "BC", -3001);
        due("signs", lane.signs(2), 3);
    }

    private static void oneToNineDigits() {
        sentence("behind an ITEM there may be *N: so many of it one behind the other (one to nine digits");
        String[] texts = {"x0", "x0*1", "x0*2", "x0*9", "x0*10", "x0*000000001", "x0*999999999", "x0*123456789x0",
            "x0*100000000", "(x0u1)*7", "(x0*3)*3x0", "x0*2x0*3"};
        long[] signs = {1, 1, 2, 9, 10, 1, 999999999, 123456790, 100000000, 14, 10, 5};
        for (int i = 0; i < texts.length; i++) {
            MirrorLane lane = Checks.lane(4, texts[i]);
            due("signs of " + texts[i], lane.signs(0), signs[i]);
        }
        fault(4, "x0*", -1003);
        fault(4, "x0*x0", -1003);
        fault(4, "x0**2", -1003);
        fault(4, "x0*/", -1003);
        fault(4, "x0*:", -1003);
        fault(4, "x0*1/", -1004);
        fault(4, "x0*1:", -1004);
        fault(4, "x0*2*2", -1004);
        fault(4, "(x0*2)*2", 1);
        fault(4, "A*2", 1);
        fault(4, "(*2x0)", -1001);
    }

    private static void noneOfIt() {
        sentence("0: none: all RAILS straight");
        for (int h = 2; h <= 5; h++) {
            MirrorLane lane = Checks.lane(h, "x0*0", "u0*000000000", "(x0u0u0)*0", "A*9", "B*0", "(u0*0)*999999999");
            for (int w = 0; w < 6; w++) {
                due("signs " + w, lane.signs(w), 0);
                straight(lane, w, h);
            }
        }
        MirrorLane lane = Checks.lane(3, "x0u1*0", "x1*0u0", "x0");
        due("one left", lane.signs(0), 1);
        due("alike", lane.both(0, 2, 0), 1);
        due("one left", lane.signs(1), 1);
        due("turned", lane.joined(1, 0), 1);
    }

    private static void toldAnew() {
        sentence("A WORD may be told anew: those that have its letter go by the new TEXT");
        MirrorLane lane = Checks.lane(3, "x0", "Au1", "B*2", "x0u1", "A*0");
        anew(lane, 0, "u0", 0);
        due("itself", lane.joined(0, 0), 1);
        due("has its letter", lane.joined(1, 0), 1);
        due("has one that has it", lane.joined(2, 0), 1);
        due("has it not", lane.joined(3, 0), 2);
        straight(lane, 4, 3);
        anew(lane, 0, "x1*3", 0);
        due("signs", lane.signs(0), 3);
        due("signs", lane.signs(1), 4);
        due("signs", lane.signs(2), 8);
        due("signs", lane.signs(3), 2);
        due("count(1)", lane.count(1), 5);
    }

    // ---- faults

    private static void whatCannotStandThere() {
        sentence("1 what can't stand there (the end, too)");
        fault(4, "x", -1001);
        fault(4, "u", -1001);
        fault(4, "x0x", -1003);
        fault(4, "xx", -1001);
        fault(4, "xA", -1001);
        fault(4, "x(", -1001);
        fault(4, "x*2", -1001);
        fault(4, ")", -1000);
        fault(4, "(x0))", -1004);
        fault(4, "x0)", -1002);
        fault(4, "(x0)*2)", -1006);
        fault(4, "*", -1000);
        fault(4, "(x0)*", -1005);
        fault(4, "7", -1000);
        fault(4, "x01", -1002);
        fault(4, "A0", -1001);
        fault(4, "x0(*2)", -1003);
        fault(4, "x0(*2x0)", -1003);
        fault(4, "A(x0)*2(*2x0)", -1008);
        fault(4, "A*3A*", -1005);
        fault(4, "(((x0)", -1006);
        fault(4, repeat("x0", 49) + "xx", -1099);
        fault(4, repeat("x0", 49) + "(A", -1100);
        fault(4, repeat("x0", 49) + "A(", -1100);
        fault(4, repeat("x0", 49) + "Ax", -1100);
        fault(4, repeat("x0", 49) + "A*", -1100);
        for (int c = 0; c < 256; c++) {
            if (c != '(' && c != 'x' && c != 'u' && (c < 'A' || c > 'P')) {
                fault(4, "" + (char) c, -1000);
            }
        }
    }

    private static void tenthDigit() {
        sentence("2 a tenth digit, at it");
        fault(4, "x0*123456789", 1);
        fault(4, "x0*1234567890", -2012);
        fault(4, "x0*0000000000", -2012);
        fault(4, "x0*0000000009", -2012);
        fault(4, "x0*00000000000", -2012);
        fault(4, "A*1234567890", -2011);
        fault(4, "(A)*1234567890q", -2013);
        fault(4, "A*123456789A*1234567890", -2022);
    }

    private static void digitOrLetterThatCannotBe() {
        sentence("3 a SIGN's digit that it can't be, or a letter of a WORD that is not told or not of a lower number");
        fault(2, "x0", 1);
        fault(2, "x1", -3001);
        fault(5, "x3", 1);
        fault(5, "x4", -3001);
        fault(5, "Au4x9", -3002);
        fault(4, "A", 1);
        fault(4, "B", -3000);
        fault(4, "C", -3000);
        fault(4, "P", -3000);
        fault(4, "x0*0B*0", -3004);
        fault(4, "(x0B", -3003);
    }

    private static void seventhOpen() {
        sentence("4 a seventh ( that is open in others, at it");
        fault(4, "((((((x0))))))", 1);
        fault(4, "(((((((x0)))))))", -4006);
        fault(4, "(((((((", -4006);
        fault(4, "((((((", -1006);
        fault(4, "(x0)(x0)(x0)(x0)(x0)(x0)(x0)(x0)", 1);
        fault(4, "((((((A)A)A)A)A)A)((((((A))))))", 1);
        fault(4, "((((((A)(A))))))", 1);
        fault(4, "((((((A)((A))))))", -4009);
        fault(4, "((((((A))((A)))))((((((A", -4022);
        fault(4, "x0((((((x0*0(", -4012);
    }

    private static void tooManySigns() {
        sentence("5 a WORD of more than 10 to the 12 SIGNS (if nothing else is amiss): at the end");
        String most = "(x0*1000000)*1000000";
        fault(4, most, 1);
        fault(4, "x0*0" + most, 1);
        fault(4, "x0" + most, -5022);
        fault(4, most + "x0", -5022);
        fault(4, most + "u1", -5022);
        fault(4, "(x0*999999)*1000001x0", 1);
        fault(4, "(x0*999999)*1000001x0x0", -5023);
        fault(4, "((x0*999999999)*999999999)*999999999", -5036);
        fault(4, "(((x0*999999999)*999999999)*999999999)*0", 1);
        fault(4, most + "x0)", -1022);
        fault(4, most + "x0*", -1023);
        fault(4, most + "x9", -3021);
        fault(4, most + "B", -3020);
        fault(4, most + "(((((((", -4026);
        fault(4, most + "x0*1234567890", -2032);
    }

    private static void asTheyAreNow() {
        sentence("by its letters' WORDS as they are now");
        String most = "(A*1000000)*1000000";
        MirrorLane lane = Checks.lane(4, "x0x0");
        tell(lane, most, -5019);
        anew(lane, 0, "x0", 0);
        tell(lane, most, 1);
        tell(lane, "AB", -5002);
        anew(lane, 0, "x0*0", 0);
        tell(lane, "AB", 2);
        due("signs", lane.signs(2), 0);
        anew(lane, 0, "x0", 0);
        due("signs", lane.signs(2), E12 + 1);
        tell(lane, "C", -5001);
        tell(lane, "C*0", 3);
        tell(lane, "B", 4);
        anew(lane, 4, "AB", -5002);
        due("it stays", lane.signs(4), E12);
        anew(lane, 2, "BA", -5002);
        due("it stays", lane.count(12), 2);
        anew(lane, 2, "B", 2);
        due("signs", lane.signs(2), E12);
    }

    private static void firstFromTheLeft() {
        sentence("FAULTS, the first from the left");
        fault(4, "x9q", -3001);
        fault(4, "qx9", -1000);
        fault(4, "x0*1234567890x9", -2012);
        fault(4, "x9x0*1234567890", -3001);
        fault(4, "B(((((((", -3000);
        fault(4, "(((((((B", -4006);
        fault(4, "((((((B(", -3006);
        fault(4, ")(((((((", -1000);
        fault(4, "x0*1*1234567890", -1004);
    }

    // ---- what a word makes

    private static void lengths() {
        sentence("The LENGTH: how often it comes to a SIGN (Of a straight RAIL alone: 0.)");
        MirrorLane lane = Checks.lane(3, "x0", "u0", "x0x0", "u0u0", "x0*0", "x0*999999999", "u0*3");
        due("x, of each of the two", lane.length(0, 0), 1);
        due("x, of each of the two", lane.length(0, 1), 1);
        due("x, the rail beside", lane.length(0, 2), 0);
        due("u, of the left two", lane.length(1, 0), 1);
        due("u, of the right two", lane.length(1, 4), 1);
        due("u, the rail beside", lane.length(1, 2), 0);
        due("two x", lane.length(2, 0), 2);
        due("two u, the left one alone", lane.length(3, 0), 1);
        due("two u, the right one alone", lane.length(3, 3), 1);
        due("the loop between", lane.loops(3, 1), 2);
        due("straight", lane.length(4, 0), 0);
        due("no loop", lane.loops(4, 1), 0);
        due("no loop", lane.loops(4, 2), 0);
        due("many x", lane.length(5, 0), 999999999);
        due("two loops between", lane.loops(6, 0), 2);
        due("the longest", lane.loops(6, 1), 2);
        due("of all", lane.loops(6, 2), 4);
    }

    private static void alikeLengthsAside() {
        sentence("Two WORDS are ALIKE if PAIRS and the number of LOOPS are the same (LENGTHS aside)");
        MirrorLane lane = Checks.lane(3, "x0x0", "x1*4", "x0*0", "u0", "u0u0", "u0u1u0", "u0x0u0", "u1");
        due("other lengths", lane.both(0, 1, 0), 1);
        due("no lengths", lane.both(0, 2, 0), 1);
        due("one loop more", lane.both(3, 4, 0), 0);
        due("one loop less", lane.both(4, 3, 0), 0);
        due("no loops", lane.both(3, 5, 0), 1);
        due("a longer loop", lane.both(4, 6, 0), 1);
        due("lengths of loops", lane.loops(6, 1), 4);
        due("other pairs", lane.both(3, 7, 0), 0);
        due("itself", lane.both(4, 4, 0), 1);
        MirrorLane four = Checks.lane(4, "u0u2", "u0u2x1", "x1u0u2");
        due("other pairs on the right alone", four.both(0, 1, 0), 0);
        due("other pairs on the left alone", four.both(0, 2, 0), 0);
    }

    private static void tooLong() {
        sentence("A WORD that has more than 10 to the 12 SIGNS by others told anew is TOO LONG");
        MirrorLane lane = Checks.lane(4, "x0*0", "(A*1000000)*1000000", "BA", "BA*0", "(A*999999)*1000001AA");
        for (int w = 0; w < 5; w++) {
            due("not yet " + w, lane.is(w, 3), 0);
        }
        anew(lane, 0, "x0", 0);
        due("10 to the 12", lane.signs(1), E12);
        due("not above", lane.is(1, 3), 0);
        due("its length", lane.length(1, 0), E12);
        due("one more", lane.signs(2), E12 + 1);
        due("above", lane.is(2, 3), 1);
        due("0 times", lane.is(3, 3), 0);
        due("its length", lane.length(3, 0), E12);
        due("one more", lane.signs(4), E12 + 1);
        due("above", lane.is(4, 3), 1);
        anew(lane, 0, "u0*0", 0);
        due("not any more", lane.is(2, 3), 0);
        straight(lane, 2, 4);
    }

    private static void tooLongNothingElse() {
        sentence("its SIGNS are told, and whether it is LEVEL, CROSSED, PLAIN; nothing else of it");
        MirrorLane lane = Checks.lane(4, "x0*0", "x1A(A*1000000)*1000000", "u1(A*1000000)*1000000", "x0");
        anew(lane, 0, "u0", 0);
        due("signs", lane.signs(1), E12 + 2);
        due("level", lane.is(1, 0), 0);
        due("crossed", lane.is(1, 1), 0);
        due("plain", lane.is(1, 2), 0);
        due("level", lane.is(2, 0), 1);
        due("crossed", lane.is(2, 1), 0);
        for (int w = 1; w <= 2; w++) {
            due("too long", lane.is(w, 3), 1);
            for (int e = 0; e < 8; e++) {
                due("joined", lane.joined(w, e), NONE);
                due("length", lane.length(w, e), NONE);
                due("walk", lane.walk(w, e, NONE), NONE);
            }
            for (int what = 0; what < 4; what++) {
                due("loops", lane.loops(w, what), NONE);
                due("both", lane.both(w, 3, what), NONE);
                due("both", lane.both(3, w, what), NONE);
                due("both", lane.both(w, w, what), NONE);
            }
            for (int what = 0; what < 3; what++) {
                due("power", lane.power(w, what), NONE);
                due("rule", lane.rule(w, what), NONE);
            }
            due("left", lane.left(w, 1), NONE);
            due("those", lane.those(w, 3, 1, E18), NONE);
            due("first", lane.first(w, 3), NONE);
            due("many", lane.many(1 << w | 1, 1, 3), NONE);
            due("made", lane.made(1 << w | 1), NONE);
            due("shortest", lane.shortest(1 << w | 1, 3, NONE), NONE);
            due("cheapest by it", lane.cheapest(1 << w | 1, 0, NONE), NONE);
            due("cheapest for it", lane.cheapest(1, w, NONE), NONE);
            due("mend", lane.mend(w), NONE);
        }
        due("back", Checks.back(lane, 3), 9);
        due("made by others", lane.made(9), 3);
        anew(lane, 1, "x1", 1);
        due("told anew itself", lane.is(1, 3), 0);
        due("told anew itself", lane.joined(1, 1), 6);
        due("the other stays so", lane.is(2, 3), 1);
    }

    private static void closedByCaps() {
        sentence("with H 2 or 4, by CAPS: PAIRS told of the ENDS on the left, and of those on the right. (Round at first.)");
        MirrorLane two = Checks.lane(2, "x0*0", "u0");
        due("round at first", two.loops(0, 3), 2);
        due("round at first", two.loops(1, 3), 1);
        due("caps", Checks.caps(two, 1, 0, 3, 2), true);
        due("by caps", two.loops(0, 3), 1);
        due("by caps", two.loops(1, 3), 2);
        int[][] sides = {{1, 0, 3, 2}, {2, 3, 0, 1}, {3, 2, 1, 0}};
        for (int[] left : sides) {
            for (int[] right : sides) {
                MirrorLane four = Checks.lane(4, "x0*0");
                due("round at first", four.loops(0, 3), 4);
                due("caps", Checks.caps(four, left[0], left[1], left[2], left[3], 4 + right[0], 4 + right[1],
                    4 + right[2], 4 + right[3]), true);
                due("by caps", four.loops(0, 3), Arrays.equals(left, right) ? 2 : 1);
            }
        }
        for (int h = 3; h <= 5; h += 2) {
            MirrorLane odd = Checks.lane(h, "x0*0");
            due("caps", Checks.caps(odd, 1, 0, 2, 4, 3, 5, 7, 6), false);
            due("round", odd.loops(0, 3), h);
        }
    }

    // ---- powers

    private static void indexAndPeriod() {
        sentence("the least m (1 at least) and the least p for which the PAIRS of POWERS m and m + p are the same");
        String[] texts = {"x0*0", "x0", "x0x1", "x0x1x2", "x0x1x2x3", "x0x1x3", "x0*999999999", "u0", "u0u1", "x0*2"};
        int[] periods = {1, 2, 3, 4, 5, 6, 2, 1, 1, 1};
        for (int i = 0; i < texts.length; i++) {
            MirrorLane lane = Checks.lane(5, texts[i]);
            due("index of " + texts[i], lane.power(0, 0), 1);
            due("period of " + texts[i], lane.power(0, 1), periods[i]);
        }
        // one of it takes 2 and 3 through to 4 and 5, a second one turns them back
        MirrorLane late = Checks.lane(4, "u0u1u2");
        due("through one of it", late.joined(0, 3), 5);
        due("index", late.power(0, 0), 2);
        due("period", late.power(0, 1), 1);
    }

    private static void theRule() {
        sentence("the least p (1 at least) for which, from some m on, L(n + p) is L(n) and one number g more;"
            + " g; the least such m (1 at least)");
        String[] texts = {"x0*0", "x0", "x0x1", "x0x1x2", "x0x1x2x3", "x0x1x3", "u0", "u0u0x2", "x0x0"};
        int[][] rules = {{1, 0}, {2, 0}, {3, 0}, {4, 0}, {5, 0}, {6, 0}, {1, 1}, {2, 4}, {1, 0}};
        for (int i = 0; i < texts.length; i++) {
            MirrorLane lane = Checks.lane(5, texts[i]);
            due("p of " + texts[i], lane.rule(0, 0), rules[i][0]);
            due("g of " + texts[i], lane.rule(0, 1), rules[i][1]);
            due("m of " + texts[i], lane.rule(0, 2), 1);
        }
        MirrorLane late = Checks.lane(4, "u0u1u2");
        due("m, though the INDEX is 2", late.rule(0, 2), 1);
        due("p", late.rule(0, 0), 1);
        // three threads go through one of it, one thread through two of it, and each POWER leaves one LOOP
        MirrorLane same = Checks.lane(5, "u1x0x3x2");
        due("INDEX", same.power(0, 0), 2);
        due("g", same.rule(0, 1), 0);
        due("m, though the INDEX is 2", same.rule(0, 2), 1);
        // two RAILS by caps: one LOOP for each POWER of x0, though its PERIOD is 2
        MirrorLane caps = Checks.lane(2, "x0");
        due("p round", caps.rule(0, 0), 2);
        due("caps", Checks.caps(caps, 1, 0, 3, 2), true);
        due("p by caps", caps.rule(0, 0), 1);
        due("period", caps.power(0, 1), 2);
    }

    private static void thoseWithK() {
        sentence("THOSE with k LOOPS: POWERS n (1 to 10 to the 18) with L(n) = k");
        MirrorLane lane = Checks.lane(2, "u0", "x0*0");
        due("L(n) is n", lane.left(0, E18), E18);
        due("the first", lane.those(0, 1, 1, 1), 1);
        due("the last", lane.those(0, E18, E18, E18), 1);
        due("the last", lane.first(0, E18), E18);
        due("just one", lane.those(0, 77, 1, E18), 1);
        due("all", lane.those(1, 2, 1, E18), E18);
        due("all but one", lane.those(1, 2, 2, E18), E18 - 1);
        due("all but one", lane.those(1, 2, 1, E18 - 1), E18 - 1);
        due("no one", lane.those(1, 1, 1, E18), 0);
        due("from 0", lane.those(1, 2, 0, 1), NONE);
        due("to one more", lane.those(1, 2, 1, E18 + 1), NONE);
        due("both above", lane.those(1, 2, E18 + 1, E18 + 1), NONE);
    }

    private static void levelAndCrossed() {
        sentence("LEVEL if no SIGN x is in it, CROSSED if no SIGN u is"
            + " (letters looked through; what stands 0 times is not in it)");
        String[] texts = {"x0", "u0", "x0u0", "A", "B", "C", "A*0", "x0*0u1", "x0u1*0", "(AB)*0", "(C*0x0)*2", "J*5u0"};
        int[] level = {0, 1, 0, 0, 1, 0, 1, 1, 0, 1, 0, 1};
        int[] crossed = {1, 0, 0, 1, 0, 0, 1, 0, 1, 1, 1, 0};
        MirrorLane lane = Checks.lane(4, texts);
        for (int w = 0; w < texts.length; w++) {
            due("level " + texts[w], lane.is(w, 0), level[w]);
            due("crossed " + texts[w], lane.is(w, 1), crossed[w]);
        }
        anew(lane, 0, "u0", 0);
        due("level, told anew", lane.is(3, 0), 1);
        due("crossed, told anew", lane.is(3, 1), 0);
    }

    // ---- sentences

    private static void oneToSixLetters() {
        sentence("LETTERS: a set of WORDS (bits; one at least, six at most)");
        MirrorLane lane = new MirrorLane();
        due("no words", lane.made(1), NONE);
        for (int w = 0; w < 16; w++) {
            due("not told yet", lane.made(1 << w), NONE);
            tell(lane, "x" + w % 3, w);
            due("told", lane.made(1 << w), 2);
        }
        int[] taken = {1, 1 << 15, 0x3f, 0xfc00, 0x8421 | 2 | 4};
        int[] made = {2, 2, 24, 24, 24};
        for (int i = 0; i < taken.length; i++) {
            due("made " + taken[i], lane.made(taken[i]), made[i]);
            due("many " + taken[i], lane.many(taken[i], 1, 3), Integer.bitCount(taken[i]));
            due("shortest " + taken[i], lane.shortest(taken[i], 3, NONE), 1);
            due("shortest " + taken[i], lane.shortest(taken[i], 3, 0), Integer.numberOfTrailingZeros(taken[i]));
        }
        int[] refused = {0, 0x7f, 0xfe00, 0xffff, 1 << 16, 1 << 16 | 1, -1, Integer.MIN_VALUE, Integer.MIN_VALUE | 1};
        for (int set : refused) {
            due("made " + set, lane.made(set), NONE);
            due("many " + set, lane.many(set, 1, 3), NONE);
            due("shortest " + set, lane.shortest(set, 3, NONE), NONE);
            due("cheapest " + set, lane.cheapest(set, 0, NONE), NONE);
        }
    }

    private static void modulus() {
        sentence("HOW MANY SENTENCES of told length leave just k LOOPS, CLOSED: modulo 998244353");
        // x0 and straight, on two RAILS, round: half of all SENTENCES leave one LOOP, half two
        MirrorLane lane = Checks.lane(2, "x0", "x0*0", "u0");
        due("below the modulus", lane.many(3, 30, 1), 1 << 29);
        due("above it", lane.many(3, 31, 1), (1 << 30) - 998244353);
        due("above it", lane.many(3, 31, 2), (1 << 30) - 998244353);
        long power = 1;
        for (int i = 1; i < 1000; i++) {
            power = power * 2 % 998244353;
        }
        due("far above it", lane.many(3, 1000, 2), power);
        due("no LOOP", lane.many(3, 31, 0), 0);
        due("three", lane.many(3, 31, 3), 0);
        // u0 n times leaves n LOOPS
        due("three, just", lane.many(4, 3, 3), 1);
        due("four", lane.many(4, 4, 3), 0);
    }

    private static void made() {
        sentence("MADE: how many different PAIRS SENTENCES of one LETTER at least have");
        MirrorLane lane = Checks.lane(3, "x0", "x1", "u0", "x0*0", "u0u0", "u0u1");
        int[] sets = {1, 3, 4, 8, 20, 32, 7, 12, 36};
        // u0 and u0u1: by left sides 01 and right sides 34 or 45
        int[] made = {2, 6, 1, 1, 1, 1, 15, 2, 2};
        for (int i = 0; i < sets.length; i++) {
            due("made " + sets[i], lane.made(sets[i]), made[i]);
        }
        MirrorLane five = Checks.lane(5, "x0", "x1", "x2", "x3", "u0");
        due("all there are of five", five.made(31), 945);
        due("crossings of five", five.made(15), 120);
        // one LOOP by four LETTERS: they must be of four kinds, in any order, x0 or u0 for the first two RAILS
        due("many by all of them", five.many(31, 4, 1), 48);
        due("many by crossings", five.many(15, 4, 1), 24);
        due("all are gone through", five.shortest(31, 0, NONE), NONE);
        shortest(five, 31, 1, 0, 1, 2, 3);
        shortest(five, 31, 2, 0, 1, 2);
        shortest(five, 30, 1, 1, 2, 3, 4);
        tell(five, "x3x2x1x0", 5);
        cheapest(five, 31, 5, 4, 3, 2, 1, 0);
        cheapest(five, 15, 5, 4, 3, 2, 1, 0);
        cheapest(five, 15, 4, NONE);
        MirrorLane two = Checks.lane(2, "x0", "u0");
        due("all there are of two", two.made(3), 3);
        due("one more if straight is told", two.made(2), 1);
    }

    private static void theShortest() {
        sentence("THE SHORTEST SENTENCE (one LETTER at least) that leaves just k LOOPS, CLOSED (to 3): of fewest LETTERS;"
            + " of like ones the least row");
        MirrorLane lane = Checks.lane(3, "x0", "x1", "x0x1", "x0*0", "x1", "u0u0u0");
        shortest(lane, 1, 3, 0, 0);
        shortest(lane, 8, 3, 3);
        shortest(lane, 3, 3, 0, 0);
        shortest(lane, 3, 2, 0);
        shortest(lane, 3, 1, 0, 1);
        shortest(lane, 7, 1, 2);
        shortest(lane, 18, 3, 1, 1);
        shortest(lane, 18, 2, 1);
        shortest(lane, 18, 1);
        shortest(lane, 3, 0);
        shortest(lane, 32, 3);
        MirrorLane turns = Checks.lane(2, "x0", "u0", "u0u0", "x0*0");
        shortest(turns, 2, 3, 1, 1, 1);
        shortest(turns, 2, 2, 1, 1);
        shortest(turns, 4, 2, 2);
        shortest(turns, 4, 3);
        shortest(turns, 6, 3, 1, 2);
        shortest(turns, 3, 2, 0, 0);
        shortest(turns, 9, 2, 3);
        shortest(turns, 10, 3, 1, 1, 1);
        MirrorLane four = Checks.lane(4, "u0u2", "u1", "x0x2");
        shortest(four, 1, 2, 0);
        shortest(four, 2, 3, 1);
        shortest(four, 3, 1, 0, 1);
        shortest(four, 2, 2);
        shortest(four, 5, 2, 0);
        shortest(four, 6, 1, 1, 2);
        due("k 4", lane.shortest(9, 4, NONE), NONE);
        due("k -1", lane.shortest(9, -1, NONE), NONE);
    }

    private static void shortest(MirrorLane lane, int set, int k, int... row) {
        String call = "shortest " + set + " for " + k;
        due(call, lane.shortest(set, k, NONE), row.length == 0 ? NONE : row.length);
        for (int i = 0; i < row.length; i++) {
            due(call + " at " + i, lane.shortest(set, k, i), row[i]);
        }
        due(call + " behind", lane.shortest(set, k, row.length), NONE);
        due(call + " ahead", lane.shortest(set, k, -2), NONE);
    }

    private static void costs() {
        sentence("COSTS of WORDS: 1 to 1000 (1 at first)");
        MirrorLane lane = Checks.lane(4, "x0", "x1");
        due("at first", lane.count(30), 1);
        due("0", lane.cost(0, 0), false);
        due("count", lane.count(30), 1);
        due("1000", lane.cost(0, 1000), true);
        due("1001", lane.cost(0, 1001), false);
        due("count", lane.count(30), 1000);
        due("1", lane.cost(0, 1), true);
        due("count", lane.count(30), 1);
        due("the other", lane.count(31), 1);
        due("at first", lane.cheapest(2, 1, -2), 1);
        due("1000", lane.cost(1, 1000), true);
        due("1000", lane.cheapest(2, 1, -2), 1000);
    }

    private static void cheapest(MirrorLane lane, int set, int w, int cost, int... row) {
        String call = "cheapest " + set + " for " + w;
        due(call + " cost", lane.cheapest(set, w, -2), cost);
        due(call + " letters", lane.cheapest(set, w, NONE), cost == NONE ? NONE : row.length);
        for (int i = 0; i < row.length; i++) {
            due(call + " at " + i, lane.cheapest(set, w, i), row[i]);
        }
        due(call + " behind", lane.cheapest(set, w, row.length), NONE);
        due(call + " ahead", lane.cheapest(set, w, -3), NONE);
    }

    private static void theCheapest() {
        sentence("THE CHEAPEST SENTENCE: the least sum of COSTS (one LETTER at least; LOOPS aside); of those of least cost:"
            + " of fewest LETTERS; of like ones the least row");
        MirrorLane lane = Checks.lane(3, "x0", "x1", "x0x1x0", "x0*0", "x1x0", "u0", "u0*9");
        cheapest(lane, 1, 3, 2, 0, 0);
        cheapest(lane, 8, 3, 1, 3);
        cheapest(lane, 64, 5, 1, 6);
        cheapest(lane, 96, 5, 1, 5);
        cheapest(lane, 32, 6, 1, 5);
        cheapest(lane, 3, 5, NONE);
        // 0 1 0 or 1 0 1, or 0 4, that has fewer LETTERS
        cheapest(lane, 3, 2, 3, 0, 1, 0);
        cheapest(lane, 19, 2, 2, 0, 4);
        due("cost", lane.cost(4, 2), true);
        cheapest(lane, 19, 2, 3, 0, 4);
        due("cost", lane.cost(4, 3), true);
        cheapest(lane, 19, 2, 3, 0, 1, 0);
        due("cost", lane.cost(0, 2), true);
        cheapest(lane, 3, 2, 4, 1, 0, 1);
        due("cost", lane.cost(2, 4), true);
        cheapest(lane, 7, 2, 4, 2);
        due("cost", lane.cost(2, 5), true);
        cheapest(lane, 7, 2, 4, 1, 0, 1);
        cheapest(lane, 3, 3, 2, 1, 1);
    }

    // ---- the mend, told back, the walk, check

    private static void plain() {
        sentence("A WORD is PLAIN if it has nothing but SIGNS in its TEXT");
        String[] texts = {"x0", "u2", repeat("x0u1", 25), "A", "(x0)", "x0*1", "x0A", "Ax0", "x0*0", "x1u2x0"};
        int[] plain = {1, 1, 1, 0, 0, 0, 0, 0, 0, 1};
        MirrorLane lane = Checks.lane(4, texts);
        for (int w = 0; w < texts.length; w++) {
            due("plain " + texts[w], lane.is(w, 2), plain[w]);
        }
        anew(lane, 0, "x0*2", 0);
        due("plain, told anew", lane.is(0, 2), 0);
        anew(lane, 3, "x0", 3);
        due("plain, told anew", lane.is(3, 2), 1);
    }

    private static void theMend() {
        sentence("THE MEND of a PLAIN WORD of ten SIGNS at most: the fewest SIGNS to change so that each POWER leaves one LOOP;"
            + " of like ones the least set, as bits by places");
        MirrorLane lane = Checks.lane(2, "x0", "u0", "x0u0", "u0x0", repeat("x0", 10), repeat("u0", 10), repeat("x0", 11),
            "x0*1", repeat("x0", 9) + "u0", "u0" + repeat("x0", 8) + "u0");
        for (int w = 0; w < 10; w++) {
            due("round, none " + w, lane.mend(w), w == 6 || w == 7 ? NONE : -2);
        }
        due("caps", Checks.caps(lane, 1, 0, 3, 2), true);
        int[] mends = {0, 1, 2, 1, 0, 1023, NONE, NONE, 512, 513};
        for (int w = 0; w < 10; w++) {
            due("by caps " + w, lane.mend(w), mends[w]);
        }
        // each of u0x1, x0u1 and u0u1 leaves one LOOP by each POWER, x0x1 three by its third
        MirrorLane three = Checks.lane(3, "x0x1", "u0x1", "x0u1", "u0u1");
        due("the least of two", three.mend(0), 1);
        due("none to change", three.mend(1), 0);
        due("none to change", three.mend(2), 0);
        due("none to change", three.mend(3), 0);
    }

    private static void toldBack() {
        sentence("a row of up to eight numbers: LOOPS of POWERS 1, 2, .. of a WORD, CLOSED: which WORDS have just these");
        MirrorLane lane = Checks.lane(5, "x0x1x3", "x0x1x3", "x0x1x2x3", "u0");
        // 2 3 4 3 2 5 2 3 of the rings of three and of two, 1 1 1 1 5 1 1 1 of the ring of five, 4 5 6 .. of the turns
        due("one", Checks.back(lane, 2), 3);
        due("one", Checks.back(lane, 1), 4);
        due("two", Checks.back(lane, 1, 1), 4);
        due("four", Checks.back(lane, 1, 1, 1, 1), 4);
        due("five", Checks.back(lane, 1, 1, 1, 1, 1), 0);
        due("five", Checks.back(lane, 1, 1, 1, 1, 5), 4);
        due("eight", Checks.back(lane, 2, 3, 4, 3, 2, 5, 2, 3), 3);
        due("the eighth not", Checks.back(lane, 2, 3, 4, 3, 2, 5, 2, 4), 0);
        due("the first not", Checks.back(lane, 3, 3, 4, 3, 2, 5, 2, 3), 0);
        due("eight", Checks.back(lane, 4, 5, 6, 7, 8, 9, 10, 11), 8);
        MirrorLane full = new MirrorLane();
        for (int w = 0; w < 16; w++) {
            tell(full, w % 2 == 0 ? "x0" : "u1", w);
        }
        due("all", Checks.back(full, 3), 0xffff);
        due("half", Checks.back(full, 3, 3), 0);
        due("half", Checks.back(full, 3, 4, 3), 0x5555);
        due("half", Checks.back(full, 3, 4, 5), 0xaaaa);
    }

    private static void theWalk() {
        sentence("THE WALK of a WORD of at most 2000 SIGNS, not closed, from an END: the SIGNS that it comes to,"
            + " by their places in the WORD written out (from 0 on)");
        MirrorLane lane = Checks.lane(2, "x0*1999", "x0*2000", "x0*2001", "(x0*40)*50", "(x0*40)*50x0", "x0*1999u0", "x0*0",
            "(x0*2001)*0x0*2000", "x0*2000(x0*2001)*0", "(x0*999999999)*0");
        int[] out = {3, 2, NONE, 2, NONE, 1, 2, 2, 2, 2};
        int[] last = {1998, 1999, NONE, 1999, NONE, 3998, NONE, 1999, 1999, NONE};
        for (int w = 0; w < out.length; w++) {
            due("comes out " + w, lane.walk(w, 0, NONE), out[w]);
            due("first " + w, lane.walk(w, 0, 0), last[w] == NONE ? NONE : 0);
            due("last " + w, lane.walk(w, 0, last[w] == NONE ? 0 : last[w]), w == 5 ? 0 : last[w]);
            due("behind " + w, lane.walk(w, 0, last[w] + 1), NONE);
        }
        due("the turn", lane.walk(5, 0, 1999), 1999);
        due("back again", lane.walk(5, 0, 2000), 1998);
        due("from the right", lane.walk(5, 2, 0), 1999);
        due("from the right", lane.walk(5, 2, 1), NONE);
        due("from the right", lane.walk(5, 2, NONE), 3);
        due("from the right", lane.walk(0, 3, 0), 1998);
        due("from the right", lane.walk(0, 3, 1998), 0);
        // six deep, and what is written out and struck out again has no room for all of it
        MirrorLane deep = Checks.lane(3, "(x0)((((((x0)*2x1)*1x0)*2)))u0", "((x0*7)*999999)*0x0", "x0*1999", "(CC)*0x1*2");
        walks(deep, 0, "x0x0x0x1x0x0x0x1x0u0");
        due("struck out", deep.walk(1, 0, 0), 0);
        due("struck out", deep.walk(1, 0, 1), NONE);
        due("struck out", deep.walk(1, 0, NONE), 4);
        due("struck out", deep.walk(3, 1, 1), 1);
        due("struck out", deep.walk(3, 1, 2), NONE);
        String inner = "x1x0x0x1x0x0";
        String middle = repeat("x1" + repeat("x0" + inner, 2), 2);
        tell(deep, "(x0)(x1(x0(x1(x0(x1(x0)*2)*2)*2)*2)*2)*2", 4);
        walks(deep, 4, "x0" + repeat("x1" + repeat("x0" + middle, 2), 2));
        tell(deep, "(x0(u1(x0(x1(x0(u1)*2)*1)*2)*1)*1)*2", 5);
        walks(deep, 5, repeat("x0u1x0x1x0u1u1x1x0u1u1", 2));
    }

    /** All walks of a WORD of three RAILS that is the same as a row of SIGNS, by the slow lane. */
    private static void walks(MirrorLane lane, int w, String written) {
        SlowLane slow = new SlowLane(3);
        slow.texts.add(written);
        SlowLane.Drawn drawn = slow.draw(slow.row(0));
        for (int e = 0; e < 6; e++) {
            List<Integer> walk = drawn.walks.get(e);
            for (int i = 0; i <= walk.size(); i++) {
                due("walk " + w + " " + e + " " + i, lane.walk(w, e, i), i < walk.size() ? walk.get(i) : NONE);
            }
            due("walk " + w + " " + e, lane.walk(w, e, NONE), drawn.pair[e]);
        }
    }

    private static void checkOfPairs() {
        sentence("for each END that with which it is joined, by ENDS: right, or the first that is not so");
        for (int h = 2; h <= 5; h++) {
            MirrorLane lane = Checks.lane(h, "u0");
            int[] right = new int[2 * h];
            for (int e = 0; e < 2 * h; e++) {
                right[e] = (e + h) % (2 * h);
            }
            right[0] = 1;
            right[1] = 0;
            right[h] = h + 1;
            right[h + 1] = h;
            Checks.feed(lane, right);
            due("right", lane.check(0), NONE);
            for (int e = 0; e < 2 * h; e++) {
                int[] wrong = right.clone();
                wrong[e] ^= 1;
                wrong[2 * h - 1] = 255;
                Checks.feed(lane, wrong);
                due("wrong at " + e, lane.check(0), e);
            }
        }
    }

    private static void callsOfOneObject() {
        sentence("An object is used for at most 512 calls after it has been made");
        MirrorLane lane = new MirrorLane();
        for (int call = 1; call <= 508; call += 4) {
            due("feed", lane.feed(0x78307530, 0, 0, 0, 0), 20);
            due("word", call == 1 ? lane.word(4) : lane.change(0, 4), 0);
            due("many", lane.many(1, 1000, 1), 0);
            due("left", lane.left(0, E18), E18 + 2);
        }
        due("call 509", lane.rule(0, 1), 1);
        due("call 510", lane.first(0, E18), E18 - 2);
        due("call 511", lane.cheapest(1, 0, -2), 1);
        due("call 512", lane.walk(0, 1, NONE), 0);
    }
}
