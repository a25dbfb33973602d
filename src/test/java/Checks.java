import java.nio.charset.StandardCharsets;

/** What the tests share: comparing answers, and feeding a lane with texts, bytes and numbers. */
final class Checks {
    private static int right = 0;
    private static int wrong = 0;

    private Checks() {
    }

    static void due(String call, long got, long want) {
        if (got == want) {
            right++;
        } else {
            wrong++;
            System.out.println(call + " answered " + got + ", due is " + want);
        }
    }

    static void due(String call, boolean got, boolean want) {
        due(call, got ? 1 : 0, want ? 1 : 0);
    }

    /** Closes a test: exit code 1 if an answer was wrong. */
    static void end() {
        System.out.println(right + " answers as due, " + wrong + " not");
        if (wrong > 0 || right == 0) {
            System.exit(1);
        }
    }

    /** Feeds bytes; the rest of the last twenty are zeros. */
    static void feed(MirrorLane lane, byte[] bytes) {
        for (int start = 0; start < bytes.length; start += 20) {
            int[] numbers = new int[5];
            for (int i = start; i < start + 20; i++) {
                int b = i < bytes.length ? bytes[i] & 255 : 0;
                numbers[(i - start) / 4] |= b << 24 - 8 * ((i - start) % 4);
            }
            lane.feed(numbers[0], numbers[1], numbers[2], numbers[3], numbers[4]);
        }
    }

    static void feed(MirrorLane lane, int... bytes) {
        byte[] row = new byte[bytes.length];
        for (int i = 0; i < bytes.length; i++) {
            row[i] = (byte) bytes[i];
        }
        feed(lane, row);
    }

    static void feedText(MirrorLane lane, String text) {
        feed(lane, text.getBytes(StandardCharsets.ISO_8859_1));
    }

    static int tell(MirrorLane lane, String text) {
        feedText(lane, text);
        return lane.word(text.length());
    }

    static int tellAnew(MirrorLane lane, int w, String text) {
        feedText(lane, text);
        return lane.change(w, text.length());
    }

    static boolean caps(MirrorLane lane, int... joints) {
        feed(lane, joints);
        return lane.caps();
    }

    static int back(MirrorLane lane, int... numbers) {
        for (int start = 0; start < numbers.length; start += 5) {
            int[] row = new int[5];
            System.arraycopy(numbers, start, row, 0, Math.min(5, numbers.length - start));
            lane.feed(row[0], row[1], row[2], row[3], row[4]);
        }
        return lane.back(numbers.length);
    }

    static MirrorLane lane(int h, String... words) {
        MirrorLane lane = new MirrorLane();
        due("rails(" + h + ")", lane.rails(h), true);
        for (int w = 0; w < words.length; w++) {
            due("word " + words[w], tell(lane, words[w]), w);
        }
        return lane;
    }
}
