/**
 * "A call that is refused (NONE, false) changes nothing but the tape, where it is told." Lanes in several states get
 * calls with any arguments; then they are asked everything, as is a twin that got no such call. And: "Of several
 * reasons of a call that told last in its line is looked at first, then the others as they stand."
 */
public final class RefusalTests {
    private static final int NONE = MirrorLane.NONE;
    private static final long E18 = 1000000000000000000L;
    private static final int[] NUMBERS = {
        -2, -1, 0, 1, 2, 3, 4, 5, 8, 9, 10, 15, 16, 1000, 1001, Integer.MIN_VALUE, Integer.MAX_VALUE};
    private static final int[] FEW = {-2, -1, 0, 1, 4, 16, Integer.MIN_VALUE, Integer.MAX_VALUE};
    private static final long[] FAR = {-1, 0, 1, 2, 7, E18, E18 + 1, Long.MIN_VALUE, Long.MAX_VALUE};
    private static final int[] SIZES = {-1, 0, 1, 2, 3, 20, 21, 100, 101, 200, 201, Integer.MIN_VALUE, Integer.MAX_VALUE};

    private interface Call {
        long on(MirrorLane lane);
    }

    /** How the lanes of a test are made: all calls, so that a twin is made by the same ones. */
    private interface State {
        MirrorLane make();
    }

    private final State state;
    private final String name;
    private final long[] kept;
    private final long[] emptied;
    private final int size;

    private RefusalTests(String name, State state) {
        this.name = name;
        this.state = state;
        MirrorLane twin = state.make();
        size = twin.count(2);
        kept = answers(twin);
        MirrorLane other = state.make();
        if (size > 0) {
            Checks.due(name + ": back empties the tape", other.back(1) != NONE, true);
        }
        emptied = answers(other);
    }

    public static void main(String[] args) {
        State[] states = {MirrorLane::new, RefusalTests::capsAndTape, RefusalTests::someWords, RefusalTests::allWords,
            RefusalTests::threeRails, RefusalTests::twoRails};
        String[] names = {"new", "caps and tape", "some words", "all words", "three rails", "two rails"};
        for (int i = 0; i < states.length; i++) {
            RefusalTests test = new RefusalTests(names[i], states[i]);
            test.questions();
            test.farQuestions();
            test.orders();
            test.faults();
        }
        reasonsOfWords();
        reasonsOfCaps();
        reasonsOfOthers();
        Checks.end();
    }

    // ---- states

    private static MirrorLane capsAndTape() {
        MirrorLane lane = new MirrorLane();
        Checks.caps(lane, 1, 0, 3, 2, 7, 6, 5, 4);
        lane.feed(0x78307531, 0x78327530, 0x78300000, 0x01020304, 0x80ff0102);
        return lane;
    }

    private static MirrorLane someWords() {
        MirrorLane lane = new MirrorLane();
        for (String text : new String[] {"x0u1", "Ax2*3", "u0u2u1", "x0x1x2"}) {
            Checks.tell(lane, text);
        }
        Checks.caps(lane, 3, 2, 1, 0, 5, 4, 7, 6);
        lane.cost(1, 7);
        lane.cost(3, 1000);
        Checks.feedText(lane, "u2x1x0u0(x0x1)*2x2x0*7u1u1u0*7");
        return lane;
    }

    private static MirrorLane allWords() {
        MirrorLane lane = new MirrorLane();
        lane.rails(5);
        Checks.tell(lane, "x0*0");
        Checks.tell(lane, "(A*1000000)*1000000u1");
        Checks.tell(lane, "Ax0*0x3");
        for (int w = 3; w < 16; w++) {
            Checks.tell(lane, (w % 2 == 0 ? "x" : "u") + w % 4 + "C*" + w % 3);
            lane.cost(w, w);
        }
        Checks.tellAnew(lane, 0, "x0x1x2");
        for (int i = 0; i < 10; i++) {
            lane.feed(0x78307831, 0x78327833, 0x75307531, 0x75327533, 0x78307830);
        }
        return lane;
    }

    private static MirrorLane threeRails() {
        MirrorLane lane = new MirrorLane();
        lane.rails(3);
        Checks.tell(lane, "x0u1x0");
        Checks.tell(lane, "A*2u0");
        lane.cost(0, 3);
        lane.feed(0x01000302, 0x05040607, 0x78307530, 0, 0);
        return lane;
    }

    private static MirrorLane twoRails() {
        MirrorLane lane = new MirrorLane();
        lane.rails(2);
        Checks.tell(lane, "x0");
        Checks.tell(lane, "u0");
        return lane;
    }

    /** What a lane answers to every question that tells something of its state; 512 calls are not reached. */
    private static long[] answers(MirrorLane lane) {
        long[] all = new long[600];
        int n = 0;
        int words = lane.count(1);
        int h = lane.count(0);
        for (int what = 0; what < 4; what++) {
            all[n++] = lane.count(what);
        }
        int ends = words > 8 ? 5 : 2 * h;
        for (int w = 0; w < words; w++) {
            all[n++] = lane.count(10 + w);
            all[n++] = lane.count(30 + w);
            all[n++] = lane.signs(w);
            all[n++] = lane.is(w, 2);
            all[n++] = lane.loops(w, 0);
            all[n++] = lane.loops(w, 2);
            all[n++] = lane.left(w, 3);
            all[n++] = lane.rule(w, 1);
            for (int e = 0; e < ends; e++) {
                all[n++] = lane.joined(w, e);
                all[n++] = lane.length(w, e);
            }
            all[n++] = lane.walk(w, 0, 0);
        }
        for (int set = 1; set < 64; set = 4 * set + 1) {
            all[n++] = lane.many(set, 5, 2);
            all[n++] = lane.made(set);
            all[n++] = lane.shortest(set, 1, NONE);
            all[n++] = lane.cheapest(set, 0, -2);
            all[n++] = lane.cheapest(set, 3, -2);
        }
        all[n++] = lane.mend(0);
        all[n++] = words > 0 ? lane.change(0, 20) : lane.word(10);
        all[n++] = lane.signs(0);
        all[n++] = lane.length(0, 0);
        return all;
    }

    // ---- any calls

    private void asBefore(String call, MirrorLane lane, boolean empties) {
        long[] due = empties ? emptied : kept;
        long[] got = answers(lane);
        for (int i = 0; i < due.length; i++) {
            if (due[i] != got[i]) {
                Checks.due(name + ": after " + call + ": answer " + i, got[i], due[i]);
                return;
            }
        }
        Checks.due(name + ": after " + call, true, true);
    }

    /** A call that only asks, whether it is refused or not. */
    private void asks(String call, Call asked) {
        MirrorLane lane = state.make();
        long first = asked.on(lane);
        Checks.due(name + ": " + call + " again", asked.on(lane), first);
        asBefore(call, lane, false);
    }

    private void questions() {
        for (int a : NUMBERS) {
            asks("signs " + a, lane -> lane.signs(a));
            asks("made " + a, lane -> lane.made(a));
            asks("mend " + a, lane -> lane.mend(a));
            asks("count " + a, lane -> lane.count(a));
            for (int b : NUMBERS) {
                String both = a + " " + b;
                asks("joined " + both, lane -> lane.joined(a, b));
                asks("length " + both, lane -> lane.length(a, b));
                asks("loops " + both, lane -> lane.loops(a, b));
                asks("power " + both, lane -> lane.power(a, b));
                asks("rule " + both, lane -> lane.rule(a, b));
                asks("is " + both, lane -> lane.is(a, b));
            }
        }
        for (int a : FEW) {
            for (int b : FEW) {
                for (int c : FEW) {
                    String all = a + " " + b + " " + c;
                    asks("both " + all, lane -> lane.both(a, b, c));
                    asks("many " + all, lane -> lane.many(a, b, c));
                    asks("shortest " + all, lane -> lane.shortest(a, b, c));
                    asks("cheapest " + all, lane -> lane.cheapest(a, b, c));
                    asks("walk " + all, lane -> lane.walk(a, b, c));
                }
            }
        }
    }

    private void farQuestions() {
        for (int w : new int[] {-1, 0, 1, 16}) {
            for (long k : FAR) {
                asks("left " + w + " " + k, lane -> lane.left(w, k));
                asks("first " + w + " " + k, lane -> lane.first(w, k));
                for (long from : FAR) {
                    for (long to : FAR) {
                        asks("those " + w + " " + k + " " + from + " " + to, lane -> lane.those(w, k, from, to));
                    }
                }
            }
        }
    }

    /** A call that does something, unless it is refused. */
    private void refused(String call, long refusal, Call asked) {
        MirrorLane lane = state.make();
        if (asked.on(lane) != refusal) {
            return;
        }
        Checks.due(name + ": " + call + " again", asked.on(lane), refusal);
        asBefore(call, lane, false);
    }

    private void orders() {
        for (int a : NUMBERS) {
            refused("rails " + a, 0, lane -> lane.rails(a) ? 1 : 0);
            refused("check " + a, -2, lane -> lane.check(a));
            for (int b : NUMBERS) {
                refused("cost " + a + " " + b, 0, lane -> lane.cost(a, b) ? 1 : 0);
            }
        }
        for (int n : SIZES) {
            refused("word " + n, NONE, lane -> lane.word(n));
            refused("back " + n, NONE, lane -> lane.back(n));
            for (int w : NUMBERS) {
                refused("change " + w + " " + n, NONE, lane -> lane.change(w, n));
            }
        }
        refused("feed", NONE, lane -> lane.feed(0x75307530, 0x75307530, 1, 2, 3));
        MirrorLane lane = state.make();
        boolean stays = lane.count(0) % 2 != 0 || size < 2 * lane.count(0);
        if (!lane.caps()) {
            asBefore("caps", lane, !stays);
        }
    }

    /** A FAULT empties the tape and changes nothing else; so do caps that are no PAIRS. */
    private void faults() {
        String[] texts = {"q", "x", "x0(", "x0*1234567890", "x9", "P", "(((((((", "((x0*999999999)*999999999)*999999999"};
        int[] faults = {-1000, -1001, -1003, -2012, -3001, -3000, -4006, -5036};
        for (int i = 0; i < texts.length; i++) {
            String text = texts[i];
            for (int w = -1; w < state.make().count(1); w++) {
                MirrorLane lane = state.make();
                if (lane.count(2) > 0) {
                    lane.back(1);
                }
                if (w >= 0 || lane.count(1) < 16) {
                    long got = w < 0 ? Checks.tell(lane, text) : Checks.tellAnew(lane, w, text);
                    Checks.due(name + ": " + text + " as " + w, got, faults[i]);
                    asBefore(text + " as " + w, lane, true);
                }
            }
        }
        MirrorLane lane = state.make();
        if (lane.count(0) % 2 == 0) {
            if (lane.count(2) > 0) {
                lane.back(1);
            }
            Checks.due(name + ": no PAIRS", Checks.caps(lane, 0, 1, 2, 3, 4, 5, 6, 7), false);
            asBefore("no PAIRS", lane, true);
        }
    }

    // ---- of several reasons

    private static void reasonsOfWords() {
        MirrorLane lane = allWords();
        lane.back(1);
        Checks.feedText(lane, "q(");
        Checks.due("a FAULT, and 16 are there", lane.word(2), NONE);
        Checks.due("the tape stays", lane.count(2), 20);
        Checks.due("a FAULT, and it has not so many", lane.change(0, 21), NONE);
        Checks.due("a FAULT, and no such n", lane.change(0, 0), NONE);
        Checks.due("a FAULT, and no such WORD", lane.change(16, 2), NONE);
        Checks.due("a FAULT, and no such WORD", lane.change(-1, 2), NONE);
        Checks.due("the tape stays", lane.count(2), 20);
        Checks.due("a FAULT alone", lane.change(0, 2), -1000);
        Checks.due("empty then", lane.count(2), 0);
        MirrorLane few = twoRails();
        Checks.feedText(few, "x1((((((((");
        Checks.due("a FAULT, and it has not so many", few.word(21), NONE);
        Checks.due("a FAULT, and no such n", few.word(101), NONE);
        Checks.due("a FAULT, and no such WORD", few.change(2, 2), NONE);
        Checks.due("the tape stays", few.count(2), 20);
        Checks.due("two FAULTS", few.word(10), -3001);
        Checks.due("empty then", few.count(2), 0);
    }

    private static void reasonsOfCaps() {
        for (int h = 2; h <= 5; h++) {
            MirrorLane lane = new MirrorLane();
            lane.rails(h);
            Checks.due("it has not so many", lane.caps(), false);
            Checks.due("it has not so many", lane.count(2), 0);
            lane.feed(-1, -1, -1, -1, -1);
            Checks.due("no PAIRS", lane.caps(), false);
            Checks.due("the tape stays with an odd H alone", lane.count(2), h % 2 == 0 ? 0 : 20);
            Checks.due("still round", lane.count(3), 0);
        }
    }

    private static void reasonsOfOthers() {
        MirrorLane lane = new MirrorLane();
        lane.rails(2);
        Checks.tell(lane, "x0x0x0x0x0x0x0x0x0x0x0");
        Checks.tell(lane, "x0*1");
        Checks.tell(lane, "x0");
        Checks.due("no MEND, and more than ten SIGNS", lane.mend(0), NONE);
        Checks.due("no MEND, and not PLAIN", lane.mend(1), NONE);
        Checks.due("no MEND", lane.mend(2), -2);
        lane.feed(-1, -1, -1, -1, -1);
        Checks.due("not so, and no such WORD", lane.check(3), -2);
        Checks.due("the tape stays", lane.count(2), 20);
        Checks.due("not so", lane.check(2), 0);
        Checks.due("empty then", lane.count(2), 0);
        MirrorLane tooLong = allWords();
        Checks.due("TOO LONG", tooLong.is(1, 3), 1);
        Checks.due("not so, and TOO LONG", tooLong.check(1), -2);
        Checks.due("the tape stays", tooLong.count(2), 200);
        Checks.due("not so", tooLong.check(2), 0);
        Checks.due("none such, and TOO LONG", tooLong.cheapest(1, 1, -2), NONE);
    }
}
