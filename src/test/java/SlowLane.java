import java.math.BigInteger;
import java.util.ArrayList;
import java.util.HashMap;
import java.util.List;
import java.util.Map;
import java.util.TreeMap;

/**
 * The document told once more in another way, without regard for speed: words are written out sign by sign, threads
 * are followed through the drawn lane, sentences are kept as rows and compared. Only for words of few signs.
 */
final class SlowLane {
    static final BigInteger MOST_SIGNS = BigInteger.TEN.pow(12);
    static final int MODULUS = 998244353;

    final int h;
    int[] caps = null;
    final List<String> texts = new ArrayList<>();
    final List<Integer> costs = new ArrayList<>();

    SlowLane(int h) {
        this.h = h;
    }

    /** What a row of signs makes. */
    static final class Drawn {
        int[] pair;
        long[] run;
        List<Long> loops = new ArrayList<>();
        List<List<Integer>> walks = new ArrayList<>();

        String key() {
            return java.util.Arrays.toString(pair);
        }
    }

    // ---- texts: a parser that descends, and tells the first fault by an exception

    private static final class Fault extends RuntimeException {
        private static final long serialVersionUID = 1;
        final int code;

        Fault(int kind, int place) {
            super("", null, false, false);
            code = -1000 * kind - place;
        }
    }

    private final class Parser {
        final String text;
        final int number;
        int at = 0;
        BigInteger signs = BigInteger.ZERO;
        boolean crosses;
        boolean turns;

        Parser(String text, int number) {
            this.text = text;
            this.number = number;
        }

        int peek() {
            return at < text.length() ? text.charAt(at) : -1;
        }

        /** ITEMS up to what is no item: the signs that they have (0 x, 1 u by even and odd), or null if not wanted. */
        Part items(int open, boolean write) {
            Part all = new Part();
            do {
                all.add(item(open, write), 1);
            } while (peek() == '(' || peek() == 'x' || peek() == 'u' || peek() >= 'A' && peek() <= 'P');
            return all;
        }

        Part item(int open, boolean write) {
            Part part;
            int c = peek();
            if (c == '(') {
                if (open == 6) {
                    throw new Fault(4, at);
                }
                at++;
                part = items(open + 1, write);
                if (peek() != ')') {
                    throw new Fault(1, at);
                }
                at++;
            } else if (c == 'x' || c == 'u') {
                at++;
                if (peek() < '0' || peek() > '9') {
                    throw new Fault(1, at);
                }
                if (peek() - '0' > h - 2) {
                    throw new Fault(3, at);
                }
                part = new Part();
                part.signs = BigInteger.ONE;
                part.crosses = c == 'x';
                part.turns = c == 'u';
                part.row.add(2 * (peek() - '0') + (c == 'u' ? 1 : 0));
                at++;
            } else if (c >= 'A' && c <= 'P') {
                if (c - 'A' >= number) {
                    throw new Fault(3, at);
                }
                at++;
                part = part(c - 'A');
            } else {
                throw new Fault(1, at);
            }
            if (peek() != '*') {
                return part;
            }
            at++;
            String digits = "";
            while (peek() >= '0' && peek() <= '9') {
                if (digits.length() == 9) {
                    throw new Fault(2, at);
                }
                digits += (char) peek();
                at++;
            }
            if (digits.isEmpty()) {
                throw new Fault(1, at);
            }
            Part many = new Part();
            many.add(part, Integer.parseInt(digits));
            return many;
        }
    }

    /** A piece of a word: its signs, written out while there are few. */
    static final class Part {
        BigInteger signs = BigInteger.ZERO;
        boolean crosses = false;
        boolean turns = false;
        List<Integer> row = new ArrayList<>();

        void add(Part other, int times) {
            if (times == 0) {
                return;
            }
            signs = signs.add(other.signs.multiply(BigInteger.valueOf(times)));
            crosses |= other.crosses;
            turns |= other.turns;
            for (int i = 0; i < times && row.size() <= 4000 && !other.row.isEmpty(); i++) {
                row.addAll(other.row);
            }
        }
    }

    Part part(int w) {
        return new Parser(texts.get(w), w).items(0, true);
    }

    /** 0 if there is none. */
    int fault(String text, int number) {
        try {
            Parser parser = new Parser(text, number);
            Part part = parser.items(0, true);
            if (parser.at < text.length()) {
                return new Fault(1, parser.at).code;
            }
            return part.signs.compareTo(MOST_SIGNS) > 0 ? new Fault(5, text.length()).code : 0;
        } catch (Fault fault) {
            return fault.code;
        }
    }

    boolean tooLong(int w) {
        return part(w).signs.compareTo(MOST_SIGNS) > 0;
    }

    List<Integer> row(int w) {
        return part(w).row;
    }

    // ---- the drawn lane

    /** Where a thread stands: gap, rail, and whether it goes on to the right. */
    private int gap;
    private int rail;
    private boolean onward;

    /** One step to a neighbouring gap or back from a mirror; the place of the sign that it comes to, or -1. */
    private int step(List<Integer> row) {
        int place = onward ? gap : gap - 1;
        int sign = row.get(place);
        int i = sign / 2;
        boolean touched = rail == i || rail == i + 1;
        if (touched) {
            rail = rail == i ? i + 1 : i;
        }
        if (touched && sign % 2 == 1) {
            onward = !onward;
        } else {
            gap += onward ? 1 : -1;
        }
        return touched ? place : -1;
    }

    Drawn draw(List<Integer> row) {
        int n = row.size();
        boolean[][] met = new boolean[n + 1][h];
        Drawn drawn = new Drawn();
        drawn.pair = new int[2 * h];
        drawn.run = new long[2 * h];
        for (int e = 0; e < 2 * h; e++) {
            gap = e < h ? 0 : n;
            rail = e % h;
            onward = e < h;
            List<Integer> walk = new ArrayList<>();
            met[gap][rail] = true;
            while (onward ? gap < n : gap > 0) {
                int place = step(row);
                met[gap][rail] = true;
                if (place >= 0) {
                    walk.add(place);
                }
            }
            drawn.pair[e] = onward ? h + rail : rail;
            drawn.run[e] = walk.size();
            drawn.walks.add(walk);
        }
        for (int g = 0; g <= n; g++) {
            for (int r = 0; r < h; r++) {
                if (!met[g][r]) {
                    gap = g;
                    rail = r;
                    onward = true;
                    long run = 0;
                    do {
                        run += step(row) >= 0 ? 1 : 0;
                        met[gap][rail] = true;
                    } while (gap != g || rail != r || !onward);
                    drawn.loops.add(run);
                }
            }
        }
        return drawn;
    }

    long closed(Drawn drawn) {
        boolean[] met = new boolean[2 * h];
        long loops = drawn.loops.size();
        for (int e = 0; e < 2 * h; e++) {
            if (!met[e]) {
                loops++;
                int at = e;
                while (!met[at]) {
                    met[at] = true;
                    at = drawn.pair[at];
                    met[at] = true;
                    at = caps != null ? caps[at] : (at + h) % (2 * h);
                }
            }
        }
        return loops;
    }

    static List<Integer> together(List<Integer> a, List<Integer> b) {
        List<Integer> all = new ArrayList<>(a);
        all.addAll(b);
        return all;
    }

    static List<Integer> times(List<Integer> row, int n) {
        List<Integer> all = new ArrayList<>();
        for (int i = 0; i < n; i++) {
            all.addAll(row);
        }
        return all;
    }

    boolean alike(List<Integer> a, List<Integer> b) {
        Drawn one = draw(a);
        Drawn two = draw(b);
        return one.key().equals(two.key()) && one.loops.size() == two.loops.size();
    }

    // ---- powers

    static final int FAR = 36;

    /** L(1) to L(FAR), at their numbers. */
    long[] lefts(List<Integer> row) {
        long[] left = new long[FAR + 1];
        for (int n = 1; n <= FAR; n++) {
            left[n] = closed(draw(times(row, n)));
        }
        return left;
    }

    int[] indexAndPeriod(List<Integer> row) {
        Map<String, Integer> met = new HashMap<>();
        for (int n = 1;; n++) {
            Integer m = met.put(draw(times(row, n)).key(), n);
            if (m != null) {
                return new int[] {m, n - m};
            }
        }
    }

    /** p, g, m: told by looking at the LOOPS of the first POWERS alone. */
    static long[] rule(long[] left) {
        for (int p = 1; p <= 12; p++) {
            long g = left[12 + p] - left[12];
            boolean holds = true;
            for (int n = 12; n + p <= FAR; n++) {
                holds &= left[n + p] - left[n] == g;
            }
            if (holds) {
                int m = 12;
                while (m > 1 && left[m - 1 + p] - left[m - 1] == g) {
                    m--;
                }
                return new long[] {p, g, m};
            }
        }
        throw new IllegalStateException("no rule");
    }

    static BigInteger left(long[] left, long n) {
        long[] rule = rule(left);
        if (n <= FAR) {
            return BigInteger.valueOf(left[(int) n]);
        }
        long turns = (n - rule[2]) / rule[0];
        BigInteger start = BigInteger.valueOf(left[(int) (rule[2] + (n - rule[2]) % rule[0])]);
        return start.add(BigInteger.valueOf(turns).multiply(BigInteger.valueOf(rule[1])));
    }

    // ---- sentences: a place is PAIRS; a row of signs stands for each

    /** What a row with a word behind it makes: the key of its PAIRS, and the LOOPS that come within. */
    final class Places {
        final List<Integer> letters;
        final Map<String, List<Integer>> rows = new HashMap<>();
        final Map<String, Long> closed = new HashMap<>();
        final Map<String, String[]> next = new HashMap<>();
        final Map<String, long[]> more = new HashMap<>();
        final Map<String, List<Integer>> todo = new HashMap<>();

        Places(int set) {
            letters = new ArrayList<>();
            for (int w = 0; w < texts.size(); w++) {
                if ((set >> w & 1) != 0) {
                    letters.add(w);
                }
            }
            lead("", new ArrayList<>());
            while (!todo.isEmpty()) {
                String key = todo.keySet().iterator().next();
                List<Integer> row = todo.remove(key);
                rows.put(key, row);
                closed.put(key, closed(draw(row)) - draw(row).loops.size());
                lead(key, row);
            }
        }

        private void lead(String key, List<Integer> row) {
            String[] to = new String[letters.size()];
            long[] loops = new long[letters.size()];
            int within = draw(row).loops.size();
            for (int i = 0; i < to.length; i++) {
                List<Integer> longer = together(row, row(letters.get(i)));
                Drawn drawn = draw(longer);
                to[i] = drawn.key();
                loops[i] = drawn.loops.size() - within;
                if (!rows.containsKey(to[i]) && !todo.containsKey(to[i])) {
                    todo.put(to[i], longer);
                }
            }
            next.put(key, to);
            more.put(key, loops);
        }

        int made() {
            return rows.size();
        }

        int many(int n, int k) {
            Map<String, long[]> ways = new HashMap<>();
            ways.put("", new long[] {1, 0, 0, 0});
            for (int i = 0; i < n; i++) {
                Map<String, long[]> longer = new HashMap<>();
                for (Map.Entry<String, long[]> entry : ways.entrySet()) {
                    for (int l = 0; l < letters.size(); l++) {
                        long[] sums = longer.computeIfAbsent(next.get(entry.getKey())[l], key -> new long[4]);
                        long add = more.get(entry.getKey())[l];
                        for (int j = 0; j + add < 4; j++) {
                            int to = (int) (j + add);
                            sums[to] = (sums[to] + entry.getValue()[j]) % MODULUS;
                        }
                    }
                }
                ways = longer;
            }
            long sum = 0;
            for (Map.Entry<String, long[]> entry : ways.entrySet()) {
                long within = k - closed.get(entry.getKey());
                sum += within >= 0 ? entry.getValue()[(int) within] : 0;
            }
            return (int) (sum % MODULUS);
        }

        /** Whether any sentence leaves k loops: all states are gone through, in no order. */
        boolean anyLeaves(int k) {
            Map<String, Integer> met = new HashMap<>();
            List<String> todo = new ArrayList<>(List.of(""));
            met.put("#0", 0);
            List<Integer> within = new ArrayList<>(List.of(0));
            while (!todo.isEmpty()) {
                String key = todo.remove(todo.size() - 1);
                int before = within.remove(within.size() - 1);
                for (int l = 0; l < letters.size(); l++) {
                    long loops = before + more.get(key)[l];
                    String to = next.get(key)[l];
                    if (loops + closed.get(to) == k) {
                        return true;
                    }
                    if (loops <= 3 && met.put(to + "#" + loops, 0) == null) {
                        todo.add(to);
                        within.add((int) loops);
                    }
                }
            }
            return false;
        }

        /** The row of the shortest sentence for k, or null: of all rows of each length, the least to each state. */
        List<Integer> shortest(int k) {
            if (!anyLeaves(k)) {
                return null;
            }
            Map<String, List<Integer>> least = new TreeMap<>();
            least.put("#0", new ArrayList<>());
            for (;;) {
                Map<String, List<Integer>> longer = new TreeMap<>();
                List<Integer> best = null;
                for (Map.Entry<String, List<Integer>> entry : least.entrySet()) {
                    String key = entry.getKey().substring(0, entry.getKey().indexOf('#'));
                    int within = Integer.parseInt(entry.getKey().substring(entry.getKey().indexOf('#') + 1));
                    for (int l = 0; l < letters.size(); l++) {
                        long loops = within + more.get(key)[l];
                        if (loops > 3) {
                            continue;
                        }
                        String to = next.get(key)[l];
                        List<Integer> row = together(entry.getValue(), List.of(letters.get(l)));
                        longer.merge(to + "#" + loops, row, SlowLane::lesser);
                        if (loops + closed.get(to) == k) {
                            best = best == null ? row : lesser(best, row);
                        }
                    }
                }
                if (best != null) {
                    return best;
                }
                least = longer;
            }
        }

        /** The row of the cheapest sentence with the PAIRS of a key, its cost in front; null: there is none. */
        List<Integer> cheapest(String target) {
            if (!rows.containsKey(target)) {
                return null;
            }
            List<Map<String, List<Integer>>> byCost = new ArrayList<>();
            byCost.add(new HashMap<>(Map.of("", new ArrayList<>())));
            for (int cost = 1;; cost++) {
                Map<String, List<Integer>> here = new HashMap<>();
                for (int l = 0; l < letters.size(); l++) {
                    int before = cost - costs.get(letters.get(l));
                    if (before < 0) {
                        continue;
                    }
                    for (Map.Entry<String, List<Integer>> entry : byCost.get(before).entrySet()) {
                        List<Integer> row = together(entry.getValue(), List.of(letters.get(l)));
                        here.merge(next.get(entry.getKey())[l], row, SlowLane::lesser);
                    }
                }
                if (here.containsKey(target)) {
                    return together(List.of(cost), here.get(target));
                }
                byCost.add(here);
            }
        }
    }

    /** Fewer first, then the least row. */
    static List<Integer> lesser(List<Integer> a, List<Integer> b) {
        if (a.size() != b.size()) {
            return a.size() < b.size() ? a : b;
        }
        for (int i = 0; i < a.size(); i++) {
            if (!a.get(i).equals(b.get(i))) {
                return a.get(i) < b.get(i) ? a : b;
            }
        }
        return a;
    }

    // ---- the mend

    int mend(List<Integer> row) {
        int best = -2;
        for (int set = 0; set < 1 << row.size(); set++) {
            boolean fewer = best == -2 || Integer.bitCount(set) < Integer.bitCount(best);
            if (fewer && leavesOne(row, set)) {
                best = set;
            }
        }
        return best;
    }

    private boolean leavesOne(List<Integer> row, int set) {
        List<Integer> turned = new ArrayList<>();
        for (int i = 0; i < row.size(); i++) {
            turned.add(row.get(i) ^ (set >> i & 1));
        }
        for (int n = 1; n <= 24; n++) {
            if (closed(draw(times(turned, n))) != 1) {
                return false;
            }
        }
        return true;
    }
}
