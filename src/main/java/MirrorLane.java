import java.util.Arrays;

/** Threads down a lane of mirrors: words of crossings and caps, and the loops that they leave. */
public final class MirrorLane {

    public static final int NONE = -1;

    private static final int NO_MEND = -2;
    private static final int NOT_CHECKED = -2;
    private static final int COST_OF_ALL = -2;

    private static final int LEAST_RAILS = 2;
    private static final int MOST_RAILS = 5;
    private static final int MOST_ENDS = 10;
    private static final int MOST_WORDS = 16;
    private static final int MOST_TEXT = 100;
    private static final int MOST_OPEN = 6;
    private static final int MOST_TAPE = 200;
    private static final int MOST_COST = 1000;
    private static final int MOST_LETTERS = 6;
    private static final int LONGEST_SENTENCE = 1000;
    private static final int MOST_LEFT = 3;
    private static final int MOST_MENDED = 10;
    private static final int MOST_TOLD_BACK = 8;
    private static final int MOST_WALKED = 2000;

    /** A sum that would be above it is told as it. */
    private static final long TOP = 9000000000000000000L;
    private static final long MOST_SIGNS = 1000000000000L;
    private static final long FARTHEST = 1000000000000000000L;

    private final Tape tape = new Tape();
    private final Closing closing = new Closing();
    private final Grammar grammar = new Grammar();
    private final Loom loom = new Loom();
    private final Powers powers = new Powers();
    private final Sentences sentences = new Sentences();
    private final Finder finder = new Finder();
    private final Mender mender = new Mender();
    private final Word[] words = new Word[MOST_WORDS];
    private final byte[] draft = new byte[MOST_TEXT];
    private final Weave woven = new Weave();
    private int h = 4;
    private int told = 0;

    public MirrorLane() {
        for (int w = 0; w < MOST_WORDS; w++) {
            words[w] = new Word();
        }
        closing.goRound(h);
    }

    public boolean rails(int h) {
        if (h < LEAST_RAILS || h > MOST_RAILS || told > 0) {
            return false;
        }
        this.h = h;
        closing.goRound(h);
        return true;
    }

    public int feed(int a, int b, int c, int d, int e) {
        if (tape.size + 20 > MOST_TAPE) {
            return NONE;
        }
        tape.add(a);
        tape.add(b);
        tape.add(c);
        tape.add(d);
        tape.add(e);
        return tape.size;
    }

    public int word(int n) {
        if (told == MOST_WORDS) {
            return NONE;
        }
        return tell(told, n);
    }

    public int change(int w, int n) {
        if (!isTold(w)) {
            return NONE;
        }
        return tell(w, n);
    }

    public boolean round() {
        closing.goRound(h);
        return true;
    }

    public boolean caps() {
        // An odd H is looked at before the PAIRS: else it could never leave the tape as it is.
        if (h % 2 != 0 || tape.size < 2 * h) {
            return false;
        }
        boolean taken = closing.goByCaps(tape, h);
        tape.size = 0;
        return taken;
    }

    public long signs(int w) {
        return isTold(w) ? words[w].made.signs : NONE;
    }

    public int joined(int w, int e) {
        return isMade(w) && isEnd(e) ? words[w].made.pair[e] : NONE;
    }

    public long length(int w, int e) {
        return isMade(w) && isEnd(e) ? words[w].made.run[e] : NONE;
    }

    public long loops(int w, int what) {
        if (!isMade(w)) {
            return NONE;
        }
        Weave made = words[w].made;
        switch (what) {
            case 0: return made.loops;
            case 1: return made.longest;
            case 2: return made.total;
            case 3: return made.loops + closing.loopsBy(made, h);
            default: return NONE;
        }
    }

    public int power(int w, int what) {
        if (!isMade(w) || what < 0 || what > 1) {
            return NONE;
        }
        powers.study(words[w].made, closing, h);
        return what == 0 ? powers.index : powers.period;
    }

    public long rule(int w, int what) {
        if (!isMade(w) || what < 0 || what > 2) {
            return NONE;
        }
        powers.study(words[w].made, closing, h);
        powers.findRule();
        if (what == 0) {
            return powers.step;
        }
        return what == 1 ? powers.more : powers.since;
    }

    public long left(int w, long n) {
        if (!isMade(w) || !isPower(n)) {
            return NONE;
        }
        powers.study(words[w].made, closing, h);
        return powers.loopsOf(n);
    }

    public long those(int w, long k, long from, long to) {
        if (!isMade(w) || k < 0 || k > FARTHEST || !isStretch(from, to)) {
            return NONE;
        }
        powers.study(words[w].made, closing, h);
        powers.findRule();
        return powers.howMany(k, from, to);
    }

    public long first(int w, long k) {
        if (!isMade(w) || k < 0 || k > FARTHEST) {
            return NONE;
        }
        powers.study(words[w].made, closing, h);
        powers.findRule();
        return powers.firstWith(k);
    }

    public int both(int a, int b, int what) {
        if (!isMade(a) || !isMade(b)) {
            return NONE;
        }
        Weave one = words[a].made;
        Weave two = words[b].made;
        switch (what) {
            case 0: return one.isAlike(two, h) ? 1 : 0;
            case 1: return loom.changePlaces(one, two, h) ? 1 : 0;
            case 2: return loom.takesUp(one, two, h) ? 1 : 0;
            case 3: return loom.comesBack(one, two, h) ? 1 : 0;
            default: return NONE;
        }
    }

    public int is(int w, int what) {
        if (!isTold(w)) {
            return NONE;
        }
        switch (what) {
            case 0: return words[w].made.crosses ? 0 : 1;
            case 1: return words[w].made.turns ? 0 : 1;
            case 2: return words[w].plain ? 1 : 0;
            case 3: return words[w].made.isTooLong() ? 1 : 0;
            default: return NONE;
        }
    }

    public int many(int letters, int n, int k) {
        if (n < 1 || n > LONGEST_SENTENCE || k < 0 || k > MOST_LEFT || !openLetters(letters)) {
            return NONE;
        }
        sentences.closeAll(closing, h);
        return sentences.howMany(n, k);
    }

    public int made(int letters) {
        return openLetters(letters) ? sentences.places - 1 : NONE;
    }

    public int shortest(int letters, int k, int what) {
        if (k < 0 || k > MOST_LEFT || what < NONE || !openLetters(letters)) {
            return NONE;
        }
        sentences.closeAll(closing, h);
        finder.findShortest(sentences, k);
        return finder.answer(what);
    }

    public boolean cost(int w, int n) {
        if (!isTold(w) || n < 1 || n > MOST_COST) {
            return false;
        }
        words[w].price = n;
        return true;
    }

    public int cheapest(int letters, int w, int what) {
        if (!isMade(w) || what < COST_OF_ALL || !openLetters(letters)) {
            return NONE;
        }
        int target = sentences.place[words[w].made.number(h)];
        finder.findCheapest(sentences, words, target);
        return what == COST_OF_ALL ? finder.price : finder.answer(what);
    }

    public int mend(int w) {
        if (!isTold(w) || !words[w].plain || words[w].size > 2 * MOST_MENDED) {
            return NONE;
        }
        return mender.leastSet(words[w], powers, closing, h);
    }

    public int back(int n) {
        if (n < 1 || n > MOST_TOLD_BACK || tape.size < 4 * n) {
            return NONE;
        }
        int set = 0;
        for (int w = 0; w < told; w++) {
            if (isMade(w) && leavesAsTold(w, n)) {
                set |= 1 << w;
            }
        }
        tape.size = 0;
        return set;
    }

    public int walk(int w, int e, int what) {
        if (!isTold(w) || words[w].made.signs > MOST_WALKED || !isEnd(e) || what < NONE) {
            return NONE;
        }
        for (int v = 0; v <= w; v++) {
            if (!words[v].written) {
                loom.writeOut(words[v], words);
            }
        }
        return words[w].follow(e, what, h);
    }

    public int check(int w) {
        if (!isMade(w) || tape.size < 2 * h) {
            return NOT_CHECKED;
        }
        int wrong = NONE;
        for (int e = 0; e < 2 * h && wrong == NONE; e++) {
            if (tape.bytes[e] != words[w].made.pair[e]) {
                wrong = e;
            }
        }
        tape.size = 0;
        return wrong;
    }

    public int count(int what) {
        switch (what) {
            case 0: return h;
            case 1: return told;
            case 2: return tape.size;
            case 3: return closing.byCaps ? 1 : 0;
            default: break;
        }
        if (what >= 10 && isTold(what - 10)) {
            return words[what - 10].size;
        }
        return what >= 30 && isTold(what - 30) ? words[what - 30].price : NONE;
    }

    private boolean isTold(int w) {
        return w >= 0 && w < told;
    }

    private boolean isMade(int w) {
        return isTold(w) && !words[w].made.isTooLong();
    }

    private boolean isEnd(int e) {
        return e >= 0 && e < 2 * h;
    }

    private static boolean isPower(long n) {
        return n >= 1 && n <= FARTHEST;
    }

    private static boolean isStretch(long from, long to) {
        return isPower(from) && isPower(to) && from <= to;
    }

    /** Tells WORD w, a new one or one anew, by the first n bytes of the tape. */
    private int tell(int w, int n) {
        if (n < 1 || n > MOST_TEXT || tape.size < n) {
            return NONE;
        }
        for (int i = 0; i < n; i++) {
            draft[i] = (byte) tape.bytes[i];
        }
        tape.size = 0;
        int fault = grammar.faultIn(draft, n, h, w);
        if (fault != 0) {
            return fault;
        }
        loom.weave(draft, n, words, woven, h);
        if (woven.isTooLong()) {
            return Grammar.faultAt(Grammar.TOO_MANY_SIGNS, n);
        }
        words[w].setText(draft, n);
        told = Math.max(told, w + 1);
        weaveFrom(w);
        return w;
    }

    /** WORDS with the letter of one that is told anew go by its new TEXT, and only higher ones can have it. */
    private void weaveFrom(int w) {
        for (int v = w; v < told; v++) {
            Word word = words[v];
            loom.weave(word.text, word.size, words, word.made, h);
            word.written = false;
        }
        sentences.forget();
    }

    private boolean openLetters(int set) {
        if (set < 1 || set >= 1 << told || Integer.bitCount(set) > MOST_LETTERS) {
            return false;
        }
        for (int w = 0; w < told; w++) {
            if ((set >> w & 1) != 0 && !isMade(w)) {
                return false;
            }
        }
        sentences.open(set, words, h);
        return true;
    }

    private boolean leavesAsTold(int w, int n) {
        powers.study(words[w].made, closing, h);
        for (int i = 0; i < n; i++) {
            if (powers.loopsOf(i + 1) != tape.number(i)) {
                return false;
            }
        }
        return true;
    }

    /** The bytes that were fed and not yet used. */
    private static final class Tape {
        final int[] bytes = new int[MOST_TAPE];
        int size = 0;

        void add(int number) {
            for (int shift = 24; shift >= 0 && size < MOST_TAPE; shift -= 8) {
                bytes[size] = number >> shift & 255;
                size++;
            }
        }

        /** A number of LOOPS is never below 0, so four bytes tell one from 0 on. */
        long number(int i) {
            long sum = 0;
            for (int at = 4 * i; at < 4 * i + 4 && at < MOST_TAPE; at++) {
                sum = sum * 256 + bytes[at];
            }
            return sum;
        }
    }

    /** What a WORD MAKES. */
    private static final class Weave {
        final int[] pair = new int[MOST_ENDS];
        final long[] run = new long[MOST_ENDS];
        long loops = 0;
        long longest = 0;
        long total = 0;
        long signs = 0;
        boolean crosses = false;
        boolean turns = false;

        boolean isTooLong() {
            return signs > MOST_SIGNS;
        }

        void beStraight(int h) {
            for (int e = 0; e < 2 * h; e++) {
                pair[e] = e < h ? e + h : e - h;
                run[e] = 0;
            }
            loops = 0;
            longest = 0;
            total = 0;
            signs = 0;
            crosses = false;
            turns = false;
        }

        /** A SIGN by twice its digit, and one more for u. */
        void beSign(int sign, int h) {
            beStraight(h);
            int i = sign / 2;
            signs = 1;
            turns = sign % 2 != 0;
            crosses = !turns;
            if (turns) {
                touch(i, i + 1);
                touch(h + i, h + i + 1);
            } else {
                touch(i, h + i + 1);
                touch(i + 1, h + i);
            }
        }

        private void touch(int e, int f) {
            pair[e] = f;
            pair[f] = e;
            run[e] = 1;
            run[f] = 1;
        }

        void beLike(Weave other) {
            System.arraycopy(other.pair, 0, pair, 0, MOST_ENDS);
            System.arraycopy(other.run, 0, run, 0, MOST_ENDS);
            loops = other.loops;
            longest = other.longest;
            total = other.total;
            signs = other.signs;
            crosses = other.crosses;
            turns = other.turns;
        }

        /** a with b behind it; neither may be this one, for they are read while this one is written. */
        void beBoth(Weave a, Weave b, int h) {
            loops = a.loops + b.loops;
            longest = Math.max(a.longest, b.longest);
            total = a.total + b.total;
            signs = a.signs + Math.min(b.signs, TOP - a.signs);
            crosses = a.crosses || b.crosses;
            turns = a.turns || b.turns;
            int met = 0;
            for (int e = 0; e < 2 * h; e++) {
                met |= joinFrom(e, a, b, h);
            }
            for (int rail = 0; rail < h; rail++) {
                if ((met >> rail & 1) == 0) {
                    met |= addLoop(rail, a, b, h);
                }
            }
        }

        /** Follows the thread from an END to where it comes out: which RAILS between a and b it meets. */
        private int joinFrom(int e, Weave a, Weave b, int h) {
            int met = 0;
            int at = e;
            long sum = 0;
            boolean inA = e < h;
            boolean inside = true;
            for (int steps = 0; inside && steps <= MOST_ENDS; steps++) {
                Weave in = inA ? a : b;
                sum += in.run[at];
                at = in.pair[at];
                inside = at >= h == inA;
                if (inside) {
                    int rail = inA ? at - h : at;
                    met |= 1 << rail;
                    at = inA ? rail : rail + h;
                    inA = !inA;
                }
            }
            pair[e] = at;
            run[e] = sum;
            return met;
        }

        /** A RAIL that no thread from an END meets lies on a loop, which never leaves the RAILS between a and b. */
        private int addLoop(int rail, Weave a, Weave b, int h) {
            int met = 0;
            int at = rail;
            long sum = 0;
            for (int steps = 0; (met >> rail & 1) == 0 && steps <= MOST_ENDS; steps++) {
                int other = b.pair[at] % h;
                sum += b.run[at] + a.run[other + h];
                at = a.pair[other + h] % h;
                met |= 1 << other | 1 << at;
            }
            loops++;
            longest = Math.max(longest, sum);
            total += sum;
            return met;
        }

        boolean isAlike(Weave other, int h) {
            boolean alike = loops == other.loops;
            for (int e = 0; e < 2 * h; e++) {
                alike = alike && pair[e] == other.pair[e];
            }
            return alike;
        }

        /** Its PAIRS as one number, from 0 on, each below Sentences.MOST_PAIRS. */
        int number(int h) {
            int sum = 0;
            int open = (1 << 2 * h) - 1;
            for (int e = 0; e < 2 * h; e++) {
                if ((open >> e & 1) != 0) {
                    int between = open & (1 << pair[e]) - (2 << e);
                    sum = sum * (Integer.bitCount(open) - 1) + Integer.bitCount(between);
                    open &= ~(1 << e | 1 << pair[e]);
                }
            }
            return sum;
        }
    }

    /** How the lane is CLOSED: for each END that with which it is joined outside. */
    private static final class Closing {
        final int[] joint = new int[MOST_ENDS];
        boolean byCaps = false;

        void goRound(int h) {
            for (int e = 0; e < 2 * h; e++) {
                joint[e] = e < h ? e + h : e - h;
            }
            byCaps = false;
        }

        boolean goByCaps(Tape tape, int h) {
            for (int e = 0; e < 2 * h; e++) {
                int f = tape.bytes[e];
                if (f >= 2 * h || f == e || f >= h != e >= h || tape.bytes[f] != e) {
                    return false;
                }
            }
            System.arraycopy(tape.bytes, 0, joint, 0, 2 * h);
            byCaps = true;
            return true;
        }

        /** How many LOOPS closing makes. */
        int loopsBy(Weave made, int h) {
            int loops = 0;
            int met = 0;
            for (int e = 0; e < 2 * h; e++) {
                if ((met >> e & 1) == 0) {
                    met |= loopFrom(e, made);
                    loops++;
                }
            }
            return loops;
        }

        private int loopFrom(int e, Weave made) {
            int met = 0;
            int at = e;
            for (int steps = 0; (met >> e & 1) == 0 && steps <= MOST_ENDS; steps++) {
                int other = made.pair[at];
                at = joint[other];
                met |= 1 << other | 1 << at;
            }
            return met;
        }
    }

    /** A WORD as it was told, and what it makes. */
    private static final class Word {
        final byte[] text = new byte[MOST_TEXT];
        int size = 0;
        boolean plain = false;
        int price = 1;
        final Weave made = new Weave();
        /** Its first SIGNS written out; they are all that it has if it may be walked. */
        final byte[] row = new byte[MOST_WALKED];
        int rowSize = 0;
        boolean written = false;

        void setText(byte[] draft, int n) {
            System.arraycopy(draft, 0, text, 0, n);
            size = n;
            plain = true;
            for (int i = 0; i < n; i++) {
                plain = plain && (text[i] == 'x' || text[i] == 'u' || Grammar.isDigit(text[i]));
            }
        }

        /** The SIGN at place what of the walk from END e, or where it comes out. */
        int follow(int e, int what, int h) {
            boolean onward = e < h;
            int rail = onward ? e : e - h;
            int ahead = onward ? 0 : rowSize - 1;
            int come = 0;
            // A thread comes by a SIGN on each RAIL and each way once at most.
            int most = 2 * MOST_RAILS * MOST_WALKED;
            for (int steps = 0; steps < most && ahead >= 0 && ahead < rowSize; steps++) {
                int upper = row[ahead] / 2;
                if (rail == upper || rail == upper + 1) {
                    if (come == what) {
                        return ahead;
                    }
                    come++;
                    rail = 2 * upper + 1 - rail;
                    onward = onward == (row[ahead] % 2 == 0);
                }
                ahead += onward ? 1 : -1;
            }
            if (what != NONE) {
                return NONE;
            }
            return onward ? rail + h : rail;
        }
    }

    /** Looks for the first FAULT of a TEXT. */
    private static final class Grammar {
        static final int MISPLACED = 1;
        static final int TENTH_DIGIT = 2;
        static final int NO_SUCH = 3;
        static final int TOO_DEEP = 4;
        static final int TOO_MANY_SIGNS = 5;

        private byte[] text = new byte[0];
        private int size = 0;
        private int at = 0;
        private int depth = 0;
        private boolean repeatable = false;
        private boolean needsItem = true;
        private int fault = 0;

        static int faultAt(int kind, int place) {
            return -1000 * kind - place;
        }

        static boolean isDigit(int c) {
            return c >= '0' && c <= '9';
        }

        /** 0 if there is none: a FAULT is never told as 0. */
        int faultIn(byte[] text, int size, int h, int number) {
            this.text = text;
            this.size = size;
            depth = 0;
            repeatable = false;
            needsItem = true;
            fault = 0;
            for (at = 0; at < size && fault == 0; at++) {
                read(text[at], h, number);
            }
            if (fault == 0 && (needsItem || depth > 0)) {
                fault = faultAt(MISPLACED, size);
            }
            return fault;
        }

        private void read(int c, int h, int number) {
            if (c == '(') {
                readOpening();
            } else if (c == ')') {
                readClosing();
            } else if (c == 'x' || c == 'u') {
                readDigit(h);
            } else if (c >= 'A' && c < 'A' + MOST_WORDS) {
                takeItem(c - 'A' < number ? 0 : NO_SUCH);
            } else if (c == '*' && repeatable) {
                readTimes();
            } else {
                fault = faultAt(MISPLACED, at);
            }
        }

        private void readOpening() {
            if (depth == MOST_OPEN) {
                fault = faultAt(TOO_DEEP, at);
            }
            depth++;
            needsItem = true;
            repeatable = false;
        }

        private void readClosing() {
            takeItem(depth == 0 || needsItem ? MISPLACED : 0);
            depth--;
        }

        private void readDigit(int h) {
            at++;
            int c = next(at);
            if (!isDigit(c)) {
                takeItem(MISPLACED);
            } else {
                takeItem(c - '0' > h - 2 ? NO_SUCH : 0);
            }
        }

        private void takeItem(int kind) {
            if (kind != 0) {
                fault = faultAt(kind, at);
            }
            needsItem = false;
            repeatable = true;
        }

        private void readTimes() {
            int digits = 0;
            while (digits < 9 && isDigit(next(at + 1))) {
                digits++;
                at++;
            }
            if (digits == 0) {
                fault = faultAt(MISPLACED, at + 1);
            } else if (isDigit(next(at + 1))) {
                fault = faultAt(TENTH_DIGIT, at + 1);
            }
            repeatable = false;
        }

        private int next(int place) {
            return place < size ? text[place] : 0;
        }
    }

    /** Goes through a TEXT without FAULT, one part at a time. */
    private static final class Items {
        static final int OPENING = 0;
        static final int CLOSING = 1;
        static final int SIGN = 2;
        static final int LETTER = 3;

        private byte[] text = new byte[0];
        private int size = 0;
        private int at = 0;
        int kind = OPENING;
        int value = 0;
        int times = 1;

        void begin(byte[] text, int size) {
            this.text = text;
            this.size = size;
            at = 0;
        }

        boolean step() {
            if (at >= size) {
                return false;
            }
            int c = take();
            times = 1;
            if (c == '(') {
                kind = OPENING;
                return true;
            }
            if (c == ')') {
                kind = CLOSING;
            } else if (c == 'x' || c == 'u') {
                kind = SIGN;
                value = 2 * (take() - '0') + (c == 'u' ? 1 : 0);
            } else {
                kind = LETTER;
                value = c - 'A';
            }
            if (at < size && text[at] == '*') {
                readTimes();
            }
            return true;
        }

        private void readTimes() {
            times = 0;
            for (at++; at < size && Grammar.isDigit(text[at]); at++) {
                times = times * 10 + text[at] - '0';
            }
        }

        private int take() {
            int c = at < size ? text[at] : '0';
            at++;
            return c;
        }
    }

    /** Makes of a TEXT what it stands for. */
    private static final class Loom {
        private final Items items = new Items();
        private final Weave[] open = new Weave[MOST_OPEN + 1];
        private final int[] starts = new int[MOST_OPEN + 1];
        private final Weave item = new Weave();
        private final Weave base = new Weave();
        private final Weave spare = new Weave();
        private final Weave other = new Weave();

        Loom() {
            for (int depth = 0; depth <= MOST_OPEN; depth++) {
                open[depth] = new Weave();
            }
        }

        void weave(byte[] text, int size, Word[] words, Weave out, int h) {
            int depth = 0;
            open[0].beStraight(h);
            items.begin(text, size);
            for (int parts = 0; parts < size && items.step(); parts++) {
                if (items.kind == Items.OPENING) {
                    depth = Math.min(depth + 1, MOST_OPEN);
                    open[depth].beStraight(h);
                } else {
                    if (items.kind == Items.CLOSING) {
                        item.beLike(open[depth]);
                        depth = Math.max(depth - 1, 0);
                    } else if (items.kind == Items.SIGN) {
                        item.beSign(items.value, h);
                    } else {
                        item.beLike(words[items.value].made);
                    }
                    repeatItem(items.times, h);
                    spare.beBoth(open[depth], item, h);
                    open[depth].beLike(spare);
                }
            }
            out.beLike(open[0]);
        }

        private void repeatItem(int times, int h) {
            if (times == 1) {
                return;
            }
            base.beLike(item);
            item.beStraight(h);
            for (int rest = times; rest > 0; rest /= 2) {
                if (rest % 2 != 0) {
                    spare.beBoth(item, base, h);
                    item.beLike(spare);
                }
                spare.beBoth(base, base, h);
                base.beLike(spare);
            }
        }

        boolean changePlaces(Weave a, Weave b, int h) {
            spare.beBoth(a, b, h);
            other.beBoth(b, a, h);
            return spare.isAlike(other, h);
        }

        boolean takesUp(Weave a, Weave b, int h) {
            spare.beBoth(a, b, h);
            return spare.isAlike(a, h);
        }

        boolean comesBack(Weave a, Weave b, int h) {
            spare.beBoth(a, b, h);
            other.beStraight(h);
            return spare.isAlike(other, h);
        }

        /**
         * Writes the SIGNS of a WORD out, as many as the row has room for. What runs over the room in a WORD
         * that may be walked stands 0 times in it, so it is struck out again before the end.
         */
        void writeOut(Word word, Word[] words) {
            int depth = 0;
            word.rowSize = 0;
            items.begin(word.text, word.size);
            for (int parts = 0; parts < word.size && items.step(); parts++) {
                int start = word.rowSize;
                if (items.kind == Items.OPENING) {
                    depth = Math.min(depth + 1, MOST_OPEN);
                    starts[depth] = start;
                } else {
                    if (items.kind == Items.CLOSING) {
                        start = starts[depth];
                        depth = Math.max(depth - 1, 0);
                    } else if (items.kind == Items.SIGN) {
                        writeSign(word, items.value);
                    } else {
                        writeRow(word, words[items.value].row, 0, words[items.value].rowSize);
                    }
                    repeatRow(word, start, items.times);
                }
            }
            word.written = true;
        }

        private static void writeSign(Word word, int sign) {
            if (word.rowSize < MOST_WALKED) {
                word.row[word.rowSize] = (byte) sign;
                word.rowSize++;
            }
        }

        private static void writeRow(Word word, byte[] row, int start, int size) {
            int part = Math.min(size, MOST_WALKED - word.rowSize);
            System.arraycopy(row, start, word.row, word.rowSize, part);
            word.rowSize += part;
        }

        private static void repeatRow(Word word, int start, int times) {
            int size = word.rowSize - start;
            if (times == 0) {
                word.rowSize = start;
            }
            for (int i = 1; i < times && size > 0 && word.rowSize < MOST_WALKED; i++) {
                writeRow(word, word.row, start, size);
            }
        }
    }

    /** The POWERS of a WORD and THE RULE of the LOOPS that they leave. */
    private static final class Powers {
        /** PAIRS of POWERS come back after nine at most, with five RAILS. */
        private static final int MOST = 64;

        private final int[] numbers = new int[MOST + 1];
        private final long[] left = new long[MOST + 1];
        private final Weave last = new Weave();
        private final Weave spare = new Weave();
        int index = 1;
        int period = 1;
        private long gain = 0;
        int step = 1;
        long more = 0;
        int since = 1;

        /** Makes POWERS until the PAIRS of one come back. */
        void study(Weave made, Closing closing, int h) {
            boolean found = false;
            index = 1;
            period = 1;
            last.beLike(made);
            for (int n = 1; n <= MOST && !found; n++) {
                if (n > 1) {
                    spare.beBoth(last, made, h);
                    last.beLike(spare);
                }
                numbers[n] = last.number(h);
                left[n] = last.loops + closing.loopsBy(last, h);
                for (int m = 1; m < n && !found; m++) {
                    if (numbers[m] == numbers[n]) {
                        found = true;
                        index = m;
                        period = n - m;
                    }
                }
            }
            gain = left[index + period] - left[index];
        }

        /** L(n). */
        long loopsOf(long n) {
            if (n < index) {
                return left[(int) n];
            }
            long turns = (n - index) / period;
            long start = left[index + (int) ((n - index) % period)];
            if (gain > 0 && turns > (TOP - start) / gain) {
                return TOP;
            }
            return start + turns * gain;
        }

        boolean alwaysLeaveOne() {
            boolean one = true;
            for (int n = 1; n <= index + period; n++) {
                one = one && left[n] == 1;
            }
            return one;
        }

        void findRule() {
            step = 1;
            while (step < period && !isEven(step)) {
                step++;
            }
            more = growth(index, step);
            since = index;
            while (since > 1 && growth(since - 1, step) == more) {
                since--;
            }
        }

        /** Whether LOOPS grow by one number over p POWERS, wherever from the INDEX on one begins. */
        private boolean isEven(int p) {
            boolean even = true;
            for (int n = index + 1; n < index + period; n++) {
                even = even && growth(n, p) == growth(index, p);
            }
            return even;
        }

        private long growth(int n, int p) {
            return loopsOf(n + p) - loopsOf(n);
        }

        long howMany(long k, long from, long to) {
            long sum = 0;
            for (int n = 1; n < since; n++) {
                if (loopsOf(n) == k && from <= n && n <= to) {
                    sum++;
                }
            }
            for (int i = 0; i < step; i++) {
                sum += howManyFrom(since + i, k, from, to);
            }
            return sum;
        }

        /** Of the POWERS start, start + p, start + 2 p, .. alone. */
        private long howManyFrom(int start, long k, long from, long to) {
            long n = firstFrom(start, k);
            if (n == NONE || n > to) {
                return 0;
            }
            if (more > 0) {
                return n >= from ? 1 : 0;
            }
            long low = from <= n ? n : n + (from - n + step - 1) / step * step;
            return low > to ? 0 : (to - low) / step + 1;
        }

        long firstWith(long k) {
            for (int n = 1; n < since; n++) {
                if (loopsOf(n) == k) {
                    return n;
                }
            }
            long least = NONE;
            for (int i = 0; i < step; i++) {
                long n = firstFrom(since + i, k);
                if (n != NONE && n <= FARTHEST && (least == NONE || n < least)) {
                    least = n;
                }
            }
            return least;
        }

        private long firstFrom(int start, long k) {
            long missing = k - loopsOf(start);
            if (missing == 0) {
                return start;
            }
            if (missing < 0 || more <= 0 || missing % more != 0) {
                return NONE;
            }
            return start + missing / more * step;
        }
    }

    /** Where SENTENCES of some LETTERS lead: their PAIRS are places, each LETTER leads on to another. */
    private static final class Sentences {
        static final int MOST_PAIRS = 945;
        /** Place 0 is the SENTENCE of no LETTER; none leads to it. */
        static final int MOST_PLACES = MOST_PAIRS + 1;
        /** Closing makes one LOOP at least, so with three within there are too many; three and more count alike. */
        static final int LEVELS = MOST_LEFT;
        private static final long MODULUS = 998244353;

        private int set = 0;
        int letters = 0;
        int places = 0;
        final int[] letter = new int[MOST_LETTERS];
        final int[] place = new int[MOST_PAIRS];
        final int[] next = new int[MOST_PLACES * MOST_LETTERS];
        final int[] more = new int[MOST_PLACES * MOST_LETTERS];
        final int[] closed = new int[MOST_PLACES];
        private final int[] pairs = new int[MOST_PLACES * MOST_ENDS];
        private final long[] row = new long[MOST_PLACES * LEVELS];
        private final long[] after = new long[MOST_PLACES * LEVELS];
        private int rowOf = 0;
        private final Weave here = new Weave();
        private final Weave there = new Weave();

        void forget() {
            set = 0;
        }

        void open(int set, Word[] words, int h) {
            if (set == this.set) {
                return;
            }
            this.set = set;
            letters = 0;
            for (int w = 0; w < MOST_WORDS; w++) {
                if ((set >> w & 1) != 0 && letters < MOST_LETTERS) {
                    letter[letters] = w;
                    letters++;
                }
            }
            Arrays.fill(place, NONE);
            places = 0;
            here.beStraight(h);
            keep(here);
            for (int from = 0; from < places && from < MOST_PLACES; from++) {
                leadOn(from, words, h);
            }
            startRow();
        }

        private void keep(Weave made) {
            System.arraycopy(made.pair, 0, pairs, places * MOST_ENDS, MOST_ENDS);
            places++;
        }

        private void leadOn(int from, Word[] words, int h) {
            for (int i = 0; i < letters; i++) {
                System.arraycopy(pairs, from * MOST_ENDS, here.pair, 0, MOST_ENDS);
                there.beBoth(here, words[letter[i]].made, h);
                int number = there.number(h);
                if (place[number] == NONE) {
                    place[number] = places;
                    keep(there);
                }
                next[from * MOST_LETTERS + i] = place[number];
                more[from * MOST_LETTERS + i] = (int) Math.min(there.loops, LEVELS);
            }
        }

        /** How many LOOPS closing makes of each place. */
        void closeAll(Closing closing, int h) {
            for (int at = 0; at < places; at++) {
                System.arraycopy(pairs, at * MOST_ENDS, here.pair, 0, MOST_ENDS);
                closed[at] = closing.loopsBy(here, h);
            }
        }

        private void startRow() {
            Arrays.fill(row, 0);
            row[0] = 1;
            rowOf = 0;
        }

        /** The row of the SENTENCES counted last is kept, and goes on to longer ones. */
        int howMany(int n, int k) {
            if (n < rowOf) {
                startRow();
            }
            while (rowOf < n) {
                lengthenRow();
                rowOf++;
            }
            long sum = 0;
            for (int i = 0; i < places * LEVELS; i++) {
                if (i % LEVELS + closed[i / LEVELS] == k) {
                    sum += row[i];
                }
            }
            return (int) (sum % MODULUS);
        }

        private void lengthenRow() {
            Arrays.fill(after, 0);
            for (int from = 0; from < places; from++) {
                spread(from);
            }
            for (int i = 0; i < places * LEVELS; i++) {
                row[i] = after[i] % MODULUS;
            }
        }

        private void spread(int from) {
            for (int way = from * MOST_LETTERS; way < from * MOST_LETTERS + letters; way++) {
                int to = next[way] * LEVELS + more[way];
                for (int loops = 0; loops + more[way] < LEVELS; loops++) {
                    after[to + loops] += row[from * LEVELS + loops];
                }
            }
        }
    }

    /** Finds the SENTENCE that is the least of those that do what is asked. */
    private static final class Finder {
        private static final int MOST_STATES = Sentences.MOST_PLACES * Sentences.LEVELS;
        private static final long FAR = FARTHEST;
        /** A cost of one weighs more than all the LETTERS that a SENTENCE without a useless one can have. */
        private static final long COST_WEIGHT = 1 << 20;

        private final int[] queue = new int[MOST_STATES];
        private final int[] from = new int[MOST_STATES];
        private final int[] by = new int[MOST_STATES];
        private final int[] found = new int[MOST_STATES];
        private final long[] rest = new long[Sentences.MOST_PLACES];
        private int size = NONE;
        int price = NONE;

        /** How many LETTERS it has, or the WORD at a place. */
        int answer(int what) {
            if (what == NONE) {
                return size;
            }
            return what >= 0 && what < size ? found[what] : NONE;
        }

        /**
         * SENTENCES are met by their number of LETTERS, like ones by their rows: the first that leads to a state is
         * the least that does, and so is the first that leaves k LOOPS.
         */
        void findShortest(Sentences sentences, int k) {
            size = NONE;
            Arrays.fill(from, NONE);
            from[0] = 0;
            queue[0] = 0;
            int tail = 1;
            for (int head = 0; head < tail && head < MOST_STATES && size == NONE; head++) {
                int state = queue[head];
                int at = state / Sentences.LEVELS;
                for (int i = 0; i < sentences.letters && size == NONE; i++) {
                    int way = at * MOST_LETTERS + i;
                    int loops = state % Sentences.LEVELS + sentences.more[way];
                    int to = sentences.next[way] * Sentences.LEVELS + loops;
                    if (loops < Sentences.LEVELS && from[to] == NONE) {
                        from[to] = state;
                        by[to] = sentences.letter[i];
                        queue[tail] = to;
                        tail++;
                        if (loops + sentences.closed[sentences.next[way]] == k) {
                            traceBack(to);
                        }
                    }
                }
            }
        }

        private void traceBack(int last) {
            size = 0;
            for (int state = last; state != 0 && size < MOST_STATES; state = from[state]) {
                size++;
            }
            int at = last;
            for (int i = size - 1; i >= 0; i--) {
                found[i] = by[at];
                at = from[at];
            }
        }

        /** From each place on the rest is known, so the least row takes the least LETTER that keeps to the best. */
        void findCheapest(Sentences sentences, Word[] words, int target) {
            size = NONE;
            price = NONE;
            if (target == NONE) {
                return;
            }
            weighRests(sentences, words, target);
            size = 0;
            price = 0;
            int at = 0;
            do {
                int best = 0;
                for (int i = 1; i < sentences.letters; i++) {
                    if (weightBy(sentences, words, at, i) < weightBy(sentences, words, at, best)) {
                        best = i;
                    }
                }
                found[size] = sentences.letter[best];
                price += words[found[size]].price;
                size++;
                at = sentences.next[at * MOST_LETTERS + best];
            } while (at != target && size < MOST_STATES);
        }

        /** The least weight that leads from each place to the target; each round settles one place more at least. */
        private void weighRests(Sentences sentences, Word[] words, int target) {
            Arrays.fill(rest, FAR);
            rest[target] = 0;
            boolean changed = true;
            for (int round = 0; changed && round < Sentences.MOST_PLACES; round++) {
                changed = false;
                for (int at = sentences.places - 1; at >= 0; at--) {
                    for (int i = 0; i < sentences.letters; i++) {
                        long weight = weightBy(sentences, words, at, i);
                        if (weight < rest[at]) {
                            rest[at] = weight;
                            changed = true;
                        }
                    }
                }
            }
        }

        private long weightBy(Sentences sentences, Word[] words, int at, int i) {
            long weight = words[sentences.letter[i]].price * COST_WEIGHT + 1;
            return weight + rest[sentences.next[at * MOST_LETTERS + i]];
        }
    }

    /** Finds THE MEND. */
    private static final class Mender {
        private final Weave[] tails = new Weave[MOST_MENDED + 1];
        private final Weave mirror = new Weave();

        Mender() {
            for (int i = 0; i <= MOST_MENDED; i++) {
                tails[i] = new Weave();
            }
        }

        /** Sets are gone through by number; one more changes low places alone, so the tails behind them stay. */
        int leastSet(Word word, Powers powers, Closing closing, int h) {
            int signs = Math.min(word.size / 2, MOST_MENDED);
            int best = NO_MEND;
            int fewest = MOST_MENDED + 1;
            tails[signs].beStraight(h);
            for (int set = 0; set < 1 << signs; set++) {
                int highest = set == 0 ? signs - 1 : Integer.bitCount((set & -set) - 1);
                for (int i = highest; i >= 0; i--) {
                    boolean turns = word.text[2 * i] == 'u' != ((set >> i & 1) != 0);
                    mirror.beSign(2 * (word.text[2 * i + 1] - '0') + (turns ? 1 : 0), h);
                    tails[i].beBoth(mirror, tails[i + 1], h);
                }
                int changes = Integer.bitCount(set);
                if (changes < fewest && leavesOne(tails[0], powers, closing, h)) {
                    best = set;
                    fewest = changes;
                }
            }
            return best;
        }

        private static boolean leavesOne(Weave made, Powers powers, Closing closing, int h) {
            if (made.loops + closing.loopsBy(made, h) != 1) {
                return false;
            }
            powers.study(made, closing, h);
            return powers.alwaysLeaveOne();
        }
    }
}
