import java.util.List;

/**
 * Long words: a few signs, repeated up to 10 to the 12 times. What so many of them make is worked out from the few
 * that the slow lane can draw: once the pairs come back, each period adds the same.
 */
public final class FarTests {
    private static final long MOST = 1000000000000L;
    /** From here on the slow lane's numbers grow evenly. */
    private static final int EVEN = 12;

    private long seed;

    private FarTests(long seed) {
        this.seed = seed * 7919 + 17;
    }

    private int dice(int n) {
        seed = seed * 6364136223846793005L + 1442695040888963407L;
        return (int) ((seed >>> 33) % n);
    }

    public static void main(String[] args) {
        int runs = args.length > 0 ? Integer.parseInt(args[0]) : 600;
        for (int run = 0; run < runs; run++) {
            new FarTests(run).run(run);
        }
        Checks.end();
    }

    private void run(int run) {
        int h = 2 + dice(4);
        String text = text(h);
        long signs = text.length() / 2;
        long inner = 1 + dice(dice(2) == 0 ? 20 : 999999999);
        long outer = Math.min(1 + dice(dice(2) == 0 ? 20 : 999999999), MOST / (signs * inner));
        long times = inner * outer;
        if (outer == 0 || times < EVEN) {
            return;
        }
        MirrorLane lane = Checks.lane(h, text, "(A*" + inner + ")*" + outer);
        String where = "run " + run + ": " + h + " rails, " + times + " of " + text + ": ";
        Checks.due(where + "signs", lane.signs(1), signs * times);
        if (signs * times + signs > MOST) {
            Checks.due(where + "one more of it", Checks.tell(lane, "AB"), -5002);
        }
        compare(where, lane, h, text, times);
        split(where, lane, h, inner, outer);
    }

    private String text(int h) {
        StringBuilder text = new StringBuilder();
        int n = 1 + dice(8);
        for (int i = 0; i < n; i++) {
            text.append(dice(2) == 0 ? 'x' : 'u').append(dice(h - 1));
        }
        return text.toString();
    }

    private static void compare(String where, MirrorLane lane, int h, String text, long times) {
        SlowLane slow = new SlowLane(h);
        slow.texts.add(text);
        List<Integer> row = slow.row(0);
        int period = slow.indexAndPeriod(row)[1];
        int start = EVEN + (int) ((times - EVEN) % period);
        SlowLane.Drawn few = slow.draw(SlowLane.times(row, start));
        long[] one = numbers(few);
        long[] two = numbers(slow.draw(SlowLane.times(row, start + period)));
        long[] three = numbers(slow.draw(SlowLane.times(row, start + 2 * period)));
        for (int i = 0; i < one.length; i++) {
            Checks.due(where + "even " + i, three[i] - two[i], two[i] - one[i]);
            long due = one[i] + (times - start) / period * (two[i] - one[i]);
            long got = i < 2 * h ? lane.length(1, i) : lane.loops(1, i - 2 * h);
            Checks.due(where + (i < 2 * h ? "length " + i : "loops " + (i - 2 * h)), got, due);
        }
        for (int e = 0; e < 2 * h; e++) {
            Checks.due(where + "joined " + e, lane.joined(1, e), few.pair[e]);
        }
        long closed = slow.closed(few) - few.loops.size() + lane.loops(1, 0);
        Checks.due(where + "closed", lane.loops(1, 3), closed);
        Checks.due(where + "as many of the one", lane.left(0, times), closed);
    }

    /** The LENGTHS of all threads, then how many LOOPS, the longest, all together. */
    private static long[] numbers(SlowLane.Drawn drawn) {
        int ends = drawn.run.length;
        long[] all = new long[ends + 3];
        System.arraycopy(drawn.run, 0, all, 0, ends);
        all[ends] = drawn.loops.size();
        for (long run : drawn.loops) {
            all[ends + 1] = Math.max(all[ends + 1], run);
            all[ends + 2] += run;
        }
        return all;
    }

    /** The same row of SIGNS told in other parts makes the same, LENGTHS, too. */
    private void split(String where, MirrorLane lane, int h, long inner, long outer) {
        long ahead = dice((int) outer);
        long first = dice((int) inner);
        String part = "(A*" + inner + ")*";
        String text = part + ahead + "A*" + first + "A*" + (inner - first) + part + (outer - ahead - 1);
        Checks.due(where + text, Checks.tell(lane, text), 2);
        Checks.due(where + text + " alike", lane.both(1, 2, 0), 1);
        for (int e = 0; e < 2 * h; e++) {
            Checks.due(where + text + " length " + e, lane.length(2, e), lane.length(1, e));
        }
        for (int what = 0; what < 4; what++) {
            Checks.due(where + text + " loops " + what, lane.loops(2, what), lane.loops(1, what));
        }
        Checks.due(where + text + " signs", lane.signs(2), lane.signs(1));
    }
}
