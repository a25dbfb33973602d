import java.lang.management.ManagementFactory;
import java.lang.reflect.Array;
import java.lang.reflect.Field;
import java.lang.reflect.Modifier;
import java.util.ArrayDeque;
import java.util.Collections;
import java.util.IdentityHashMap;
import java.util.Set;

/** Calls with any arguments in any state: none throws, none makes an object, and an object stays small. */
public final class RoomTests {
    private static final int[] NUMBERS = {
        -3, -2, -1, 0, 1, 2, 3, 4, 5, 6, 7, 8, 9, 10, 15, 16, 20, 31, 63, 100, 101, 1000, 1001, 65535, 65536,
        Integer.MAX_VALUE, Integer.MIN_VALUE};
    private static final long[] LONGS = {
        -1, 0, 1, 2, 3, 4, 5, 7, 100, 999999999999L, 1000000000000000000L, 1000000000000000001L, 999999999999999999L,
        9000000000000000000L, Long.MAX_VALUE, Long.MIN_VALUE};
    private static final String[] TEXTS = {
        "x0", "u0", "x0u1", "u0x1u0", "(x0u0*9)*3", "AB", "A*999999999", "B*999999999", "(AB*3)*0x0", "x0*0", "C*9D",
        "((((((x0))))))*2", "x3u2", "(((((((x0", "x0*0000000001", "u0*999999999", "x0x0x0x0x0u0u0u0u0u0", "x1*2000",
        "(C*2", "x2x1x0", "u2u1u0x2", "((A*999999999)*999999999)*999999999", "ABCDEFGHIJKLMNOP"};

    private long seed;

    private RoomTests(long seed) {
        this.seed = seed;
    }

    private int dice(int n) {
        seed = seed * 6364136223846793005L + 1442695040888963407L;
        return (int) ((seed >>> 33) % n);
    }

    public static void main(String[] args) throws Exception {
        size();
        for (int run = 0; run < 400; run++) {
            new RoomTests(run * 31L + 7).calls(run);
        }
        noneMade();
        Checks.end();
    }

    private int number() {
        return dice(9) == 0 ? NUMBERS[dice(NUMBERS.length)] : dice(3) == 0 ? dice(40) - 2 : dice(6);
    }

    private long far() {
        return dice(2) == 0 ? LONGS[dice(LONGS.length)] : number();
    }

    private void calls(int run) {
        MirrorLane lane = new MirrorLane();
        String last = "";
        lane.rails(2 + dice(4));
        try {
            for (int i = 0; i < 300; i++) {
                int kind = dice(36);
                if (kind > 26 && kind != 30) {
                    lane.back(1);
                }
                last = call(lane, kind);
            }
            Checks.due("run " + run, true, true);
        } catch (RuntimeException thrown) {
            thrown.printStackTrace(System.out);
            Checks.due("run " + run + " throws in " + last, false, true);
        }
    }

    private String call(MirrorLane lane, int kind) {
        switch (kind) {
            case 0: return "rails " + lane.rails(number());
            case 1: return "feed " + lane.feed(number(), number(), number() << 24, number() << 16, (int) far());
            case 2: return "word " + lane.word(number());
            case 3: return "change " + lane.change(number(), number());
            case 4: return "round " + lane.round();
            case 5: return "caps " + lane.caps();
            case 6: return "signs " + lane.signs(number());
            case 7: return "joined " + lane.joined(number(), number());
            case 8: return "length " + lane.length(number(), number());
            case 9: return "loops " + lane.loops(number(), number());
            case 10: return "power " + lane.power(number(), number());
            case 11: return "rule " + lane.rule(number(), number());
            case 12: return "left " + lane.left(number(), far());
            case 13: return "those " + lane.those(number(), far(), far(), far());
            case 14: return "first " + lane.first(number(), far());
            case 15: return "both " + lane.both(number(), number(), number());
            case 16: return "is " + lane.is(number(), number());
            case 17: return "many " + lane.many(number(), dice(20) == 0 ? 1000 : number(), number());
            case 18: return "made " + lane.made(number());
            case 19: return "shortest " + lane.shortest(number(), number(), number());
            case 20: return "cost " + lane.cost(number(), number());
            case 21: return "cheapest " + lane.cheapest(number(), number(), number());
            case 22: return "mend " + lane.mend(number());
            case 23: return "back " + lane.back(number());
            case 24: return "walk " + lane.walk(number(), number(), number());
            case 25: return "check " + lane.check(number());
            case 26: return "count " + lane.count(number());
            case 27: return "caps " + Checks.caps(lane, 1, 0, 3, 2, 5, 4, 7, 6);
            case 28: return "caps " + Checks.caps(lane, 1, 0, 3, 2);
            case 29: return "change " + Checks.tellAnew(lane, dice(6), TEXTS[dice(TEXTS.length)]);
            case 30: return "cost " + lane.cost(dice(3), 1 + dice(1000));
            default: return "word " + Checks.tell(lane, TEXTS[dice(TEXTS.length)]);
        }
    }

    /** What one object holds, in objects and arrays, and in fields and elements. */
    private static void size() throws Exception {
        MirrorLane lane = new MirrorLane();
        Set<Object> met = Collections.newSetFromMap(new IdentityHashMap<>());
        ArrayDeque<Object> todo = new ArrayDeque<>();
        met.add(lane);
        todo.add(lane);
        long elements = 0;
        while (!todo.isEmpty()) {
            Object object = todo.remove();
            Class<?> type = object.getClass();
            if (type.isArray()) {
                elements += Array.getLength(object);
                for (int i = 0; i < Array.getLength(object) && !type.getComponentType().isPrimitive(); i++) {
                    visit(Array.get(object, i), met, todo);
                }
                continue;
            }
            for (Field field : type.getDeclaredFields()) {
                if (!Modifier.isStatic(field.getModifiers())) {
                    elements++;
                    field.setAccessible(true);
                    if (!field.getType().isPrimitive()) {
                        visit(field.get(object), met, todo);
                    }
                }
            }
        }
        System.out.println("one object: " + met.size() + " objects, " + elements + " fields and elements");
        Checks.due("few objects", met.size() < 1000, true);
        Checks.due("few elements", elements < 200000, true);
    }

    private static void visit(Object object, Set<Object> met, ArrayDeque<Object> todo) {
        if (object != null && met.add(object)) {
            todo.add(object);
        }
    }

    /** Every row is made with the object: a call makes none. */
    private static void noneMade() {
        com.sun.management.ThreadMXBean bean = (com.sun.management.ThreadMXBean) ManagementFactory.getThreadMXBean();
        long id = Thread.currentThread().getId();
        long most = 0;
        for (int round = 0; round < 3; round++) {
            MirrorLane lane = new MirrorLane();
            long before = bean.getThreadAllocatedBytes(id);
            dear(lane);
            most = bean.getThreadAllocatedBytes(id) - before;
        }
        System.out.println("dear calls made " + most + " bytes");
        Checks.due("calls make no objects", most < 2000, true);
    }

    private static void dear(MirrorLane lane) {
        lane.rails(5);
        int[] words = {0x78300000, 0x78310000, 0x78320000, 0x78330000, 0x75300000};
        for (int word : words) {
            lane.feed(word, 0, 0, 0, 0);
            lane.word(2);
        }
        lane.feed(0x78307530, 0x78317531, 0x78327532, 0x78307530, 0x78317531);
        lane.word(20);
        lane.many(31, 500, 2);
        lane.many(62, 40, 3);
        lane.shortest(31, 3, -1);
        lane.cheapest(31, 5, -2);
        lane.mend(5);
        lane.rule(5, 1);
        lane.those(5, 3, 1, 1000000000000000000L);
        lane.both(1, 5, 1);
        lane.walk(5, 2, -1);
        lane.feed(1, 2, 3, 4, 5);
        lane.back(3);
        lane.feed(1, 2, 3, 4, 5);
        lane.check(5);
    }
}
