import java.math.BigInteger;
import java.util.ArrayList;
import java.util.List;

/** Random lanes, from fixed seeds, against the slow one. */
public final class OracleTests {
    private static final long E18 = 1000000000000000000L;
    private static final BigInteger TOP = new BigInteger("9000000000000000000");

    private long seed;
    private MirrorLane fast;
    private SlowLane slow;
    private String where;

    private OracleTests(long seed) {
        this.seed = seed * 7919 + 17;
    }

    private int dice(int n) {
        seed = seed * 6364136223846793005L + 1442695040888963407L;
        return (int) ((seed >>> 33) % n);
    }

    public static void main(String[] args) {
        int runs = args.length > 0 ? Integer.parseInt(args[0]) : 1000;
        for (int run = 0; run < runs; run++) {
            new OracleTests(run).run(run);
        }
        Checks.end();
    }

    private void due(String call, long got, long want) {
        Checks.due(where + call, got, want);
    }

    private void due(String call, boolean got, boolean want) {
        Checks.due(where + call, got, want);
    }

    private void run(int run) {
        int h = 2 + dice(4);
        fast = new MirrorLane();
        slow = new SlowLane(h);
        where = "run " + run + " (" + h + " rails): ";
        due("rails", fast.rails(h), true);
        faults();
        mends();
        int words = 1 + dice(6);
        for (int w = 0; w < words; w++) {
            String text = text(h, w, 3, 2);
            tell(text);
        }
        where += slow.texts + " ";
        close(h);
        words();
        if (dice(3) == 0) {
            changeOne();
            where += "anew " + slow.texts + " ";
            words();
        }
        pairs();
        sentences();
        if (h % 2 == 0) {
            close(h);
            sentences();
            words();
        }
        told();
    }

    /** A text without fault; few signs, so that it can be written out. */
    private String text(int h, int number, int items, int depth) {
        StringBuilder text = new StringBuilder();
        int n = 1 + dice(items);
        for (int i = 0; i < n; i++) {
            int kind = dice(8);
            if (kind == 0 && depth > 0) {
                text.append('(').append(text(h, number, items, depth - 1)).append(')');
            } else if (kind == 1 && number > 0) {
                text.append((char) ('A' + dice(number)));
            } else {
                text.append(dice(5) < 3 ? 'x' : 'u').append(dice(h - 1));
            }
            if (dice(6) == 0) {
                text.append('*').append(dice(3) == 0 ? "0" : "").append(dice(4));
            }
        }
        return text.length() > 60 ? "x0" : text.toString();
    }

    private void tell(String text) {
        if (slow.fault(text, slow.texts.size()) != 0) {
            text = "u0";
        }
        int number = slow.texts.size();
        slow.texts.add(text);
        if (slow.part(number).signs.compareTo(BigInteger.valueOf(60)) > 0) {
            text = "x0u0";
            slow.texts.set(number, text);
        }
        slow.costs.add(1);
        due("word " + text, Checks.tell(fast, text), number);
        if (dice(2) == 0) {
            int cost = 1 + dice(dice(4) == 0 ? 40 : 4);
            slow.costs.set(number, cost);
            due("cost", fast.cost(number, cost), true);
        }
    }

    private void changeOne() {
        int w = dice(slow.texts.size());
        String text = text(slow.h, w, 3, 2);
        String old = slow.texts.set(w, text);
        boolean small = true;
        for (int v = 0; v < slow.texts.size(); v++) {
            small &= slow.part(v).signs.compareTo(BigInteger.valueOf(60)) <= 0;
        }
        if (!small) {
            slow.texts.set(w, old);
            return;
        }
        due("change " + w + " " + text, Checks.tellAnew(fast, w, text), w);
    }

    private void close(int h) {
        slow.caps = null;
        due("round", fast.round(), true);
        if (h % 2 == 0 && dice(2) == 0) {
            int[] caps = h == 2 ? new int[] {1, 0, 3, 2} : new int[8];
            if (h == 4) {
                cap(caps, 0);
                cap(caps, 4);
            }
            slow.caps = caps;
            due("caps", Checks.caps(fast, caps), true);
        }
        due("count(3)", fast.count(3), slow.caps == null ? 0 : 1);
    }

    private void cap(int[] caps, int start) {
        int other = 1 + dice(3);
        int a = other == 1 ? 2 : 1;
        int b = 6 - other - a;
        caps[start] = start + other;
        caps[start + other] = start;
        caps[start + a] = start + b;
        caps[start + b] = start + a;
    }

    /** Texts with faults, and some without, in a lane with a few words. */
    private void faults() {
        String signs = "xu(()AB*01239*y ";
        MirrorLane lane = new MirrorLane();
        SlowLane other = new SlowLane(slow.h);
        lane.rails(slow.h);
        Checks.tell(lane, "x0u0*999999999");
        other.texts.add("x0u0*999999999");
        for (int i = 0; i < 40; i++) {
            StringBuilder text = new StringBuilder(dice(2) == 0 ? "" : text(slow.h, 1, 4, 8));
            int changes = dice(4);
            for (int c = 0; c < changes || text.length() == 0; c++) {
                int at = dice(text.length() + 1);
                text.insert(at, signs.charAt(dice(signs.length())));
            }
            if (dice(3) == 0) {
                text.append("*").append(998 + dice(3)).append(dice(9) == 0 ? "00000000" : "");
            }
            if (text.length() <= 100) {
                int fault = other.fault(text.toString(), 1);
                int got = Checks.tell(lane, text.toString());
                due("word " + text, got, fault == 0 ? 1 : fault);
                due("count(2)", lane.count(2), 0);
                if (got == 1) {
                    lane = new MirrorLane();
                    lane.rails(slow.h);
                    Checks.tell(lane, "x0u0*999999999");
                }
            }
        }
    }

    /** Lanes of plain words, all of which might be mended, closed in several ways. */
    private void mends() {
        MirrorLane lane = new MirrorLane();
        SlowLane other = new SlowLane(slow.h);
        lane.rails(slow.h);
        MirrorLane mine = fast;
        SlowLane its = slow;
        fast = lane;
        slow = other;
        close(slow.h);
        for (int w = 0; w < 6; w++) {
            StringBuilder text = new StringBuilder();
            int signs = 2 + dice(5);
            for (int i = 0; i < signs; i++) {
                text.append(dice(3) == 0 ? 'u' : 'x').append(dice(slow.h - 1));
            }
            slow.texts.add(text.toString());
            due("word " + text, Checks.tell(fast, text.toString()), w);
            due("mend of " + text, fast.mend(w), slow.mend(slow.row(w)));
        }
        fast = mine;
        slow = its;
    }

    private void words() {
        for (int w = 0; w < slow.texts.size(); w++) {
            SlowLane.Part part = slow.part(w);
            SlowLane.Drawn drawn = slow.draw(part.row);
            due("signs " + w, fast.signs(w), part.row.size());
            due("level " + w, fast.is(w, 0), part.crosses ? 0 : 1);
            due("crossed " + w, fast.is(w, 1), part.turns ? 0 : 1);
            due("plain " + w, fast.is(w, 2), slow.texts.get(w).matches("([xu][0-9])+") ? 1 : 0);
            due("too long " + w, fast.is(w, 3), 0);
            for (int e = 0; e < 2 * slow.h; e++) {
                due("joined " + w + " " + e, fast.joined(w, e), drawn.pair[e]);
                due("length " + w + " " + e, fast.length(w, e), drawn.run[e]);
                due("walk out " + w + " " + e, fast.walk(w, e, -1), drawn.pair[e]);
                for (int i = 0; i <= drawn.walks.get(e).size(); i++) {
                    int place = i < drawn.walks.get(e).size() ? drawn.walks.get(e).get(i) : -1;
                    due("walk " + w + " " + e + " " + i, fast.walk(w, e, i), place);
                }
            }
            long longest = 0;
            long total = 0;
            for (long run : drawn.loops) {
                longest = Math.max(longest, run);
                total += run;
            }
            due("loops " + w, fast.loops(w, 0), drawn.loops.size());
            due("longest " + w, fast.loops(w, 1), longest);
            due("total " + w, fast.loops(w, 2), total);
            due("closed " + w, fast.loops(w, 3), slow.closed(drawn));
            powers(w);
        }
    }

    private void powers(int w) {
        List<Integer> row = slow.row(w);
        int[] index = slow.indexAndPeriod(row);
        long[] left = slow.lefts(row);
        long[] rule = SlowLane.rule(left);
        due("index " + w, fast.power(w, 0), index[0]);
        due("period " + w, fast.power(w, 1), index[1]);
        for (int i = 0; i < 3; i++) {
            due("rule " + w + " " + i, fast.rule(w, i), rule[i]);
        }
        for (int n = 1; n <= SlowLane.FAR; n++) {
            due("left " + w + " " + n, fast.left(w, n), left[n]);
        }
        for (int i = 0; i < 4; i++) {
            long n = E18 - dice(20);
            due("left " + w + " " + n, fast.left(w, n), SlowLane.left(left, n).min(TOP).longValueExact());
        }
        for (int k = 0; k <= 12; k++) {
            int from = 1 + dice(12);
            int to = from + dice(24);
            long some = 0;
            for (int n = from; n <= to; n++) {
                some += left[n] == k ? 1 : 0;
            }
            due("those " + w + " " + k, fast.those(w, k, from, to), some);
            due("those back " + w + " " + k, fast.those(w, k, to, from), from == to ? some : -1);
            long all = 0;
            long first = -1;
            for (int n = 1; n <= SlowLane.FAR; n++) {
                boolean free = rule[1] == 0 && n >= rule[2] && n < rule[2] + rule[0];
                if (left[n] == k) {
                    first = first < 0 ? n : first;
                    all += free ? (E18 - n) / rule[0] + 1 : rule[1] == 0 && n >= rule[2] ? 0 : 1;
                }
            }
            due("first " + w + " " + k, fast.first(w, k), first);
            due("those of all " + w + " " + k, fast.those(w, k, 1, E18), all);
        }
        far(w, left, rule);
    }

    /** The far POWERS, by the numbers of LOOPS that they leave. */
    private void far(int w, long[] left, long[] rule) {
        for (int i = 0; i < 3; i++) {
            long n = E18 / (1 + dice(9)) - dice(9);
            BigInteger k = SlowLane.left(left, n);
            if (k.compareTo(BigInteger.valueOf(E18)) > 0) {
                continue;
            }
            long same = 0;
            long first = -1;
            for (long m = n - 30; m <= n + 30 && m <= E18; m++) {
                if (SlowLane.left(left, m).equals(k)) {
                    same++;
                    first = first < 0 ? m : first;
                }
            }
            due("far those " + w + " " + k, fast.those(w, k.longValueExact(), n - 30, Math.min(n + 30, E18)), same);
            if (rule[1] > 0) {
                due("far first " + w + " " + k, fast.first(w, k.longValueExact()), first);
            }
        }
    }

    private void pairs() {
        List<Integer> straight = new ArrayList<>();
        for (int a = 0; a < slow.texts.size(); a++) {
            for (int b = 0; b < slow.texts.size(); b++) {
                List<Integer> one = slow.row(a);
                List<Integer> two = slow.row(b);
                List<Integer> both = SlowLane.together(one, two);
                due("alike", fast.both(a, b, 0), slow.alike(one, two) ? 1 : 0);
                due("change places", fast.both(a, b, 1), slow.alike(both, SlowLane.together(two, one)) ? 1 : 0);
                due("takes up", fast.both(a, b, 2), slow.alike(both, one) ? 1 : 0);
                due("undoes", fast.both(a, b, 3), slow.alike(both, straight) ? 1 : 0);
            }
        }
    }

    private void sentences() {
        int words = slow.texts.size();
        int set = 1 + dice((1 << words) - 1);
        SlowLane.Places places = slow.new Places(set);
        due("made " + set, fast.made(set), places.made());
        for (int i = 0; i < 6; i++) {
            int n = i < 4 ? 1 + dice(8) : 1 + dice(places.made() > 200 ? 12 : 60);
            for (int k = 0; k <= 3; k++) {
                due("many " + set + " " + n + " " + k, fast.many(set, n, k), places.many(n, k));
            }
        }
        for (int k = 0; k <= 3; k++) {
            List<Integer> row = places.shortest(k);
            int size = row == null ? -1 : row.size();
            due("shortest " + set + " " + k, fast.shortest(set, k, -1), size);
            for (int i = 0; i <= size; i++) {
                due("shortest " + set + " " + k + " " + i, fast.shortest(set, k, i), i < size ? row.get(i) : -1);
            }
        }
        for (int w = 0; w < words; w++) {
            List<Integer> row = places.cheapest(slow.draw(slow.row(w)).key());
            int size = row == null ? -1 : row.size() - 1;
            String call = "cheapest " + set + " " + w + " of costs " + slow.costs + " ";
            due(call + -2, fast.cheapest(set, w, -2), row == null ? -1 : row.get(0));
            due(call + -1, fast.cheapest(set, w, -1), size);
            for (int i = 0; i <= size; i++) {
                due(call + i, fast.cheapest(set, w, i), i < size ? row.get(i + 1) : -1);
            }
        }
    }

    private void told() {
        for (int w = 0; w < slow.texts.size(); w++) {
            boolean plain = slow.texts.get(w).matches("([xu][0-9]){1,10}");
            due("mend " + w, fast.mend(w), plain ? slow.mend(slow.row(w)) : -1);
            int n = 1 + dice(8);
            long[] left = slow.lefts(slow.row(w));
            int[] numbers = new int[n];
            for (int i = 0; i < n; i++) {
                numbers[i] = (int) left[i + 1];
            }
            int set = 0;
            for (int v = 0; v < slow.texts.size(); v++) {
                long[] others = slow.lefts(slow.row(v));
                boolean same = true;
                for (int i = 0; i < n; i++) {
                    same &= others[i + 1] == left[i + 1];
                }
                set |= same ? 1 << v : 0;
            }
            due("back of " + w, Checks.back(fast, numbers), set);
            check(w);
        }
    }

    private void check(int w) {
        int[] pair = slow.draw(slow.row(w)).pair.clone();
        int wrong = dice(2 * slow.h + 1);
        if (wrong < 2 * slow.h) {
            pair[wrong] ^= 1 + dice(200);
        }
        Checks.feed(fast, pair);
        due("check " + w, fast.check(w), wrong < 2 * slow.h ? wrong : -1);
    }
}
