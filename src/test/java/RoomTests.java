import java.lang.management.ManagementFactory;
import java.lang.reflect.Array;
import java.lang.reflect.Field;
import java.lang.reflect.Modifier;
import java.util.ArrayDeque;
import java.util.Collections;
import java.util.Deque;
import java.util.IdentityHashMap;
import java.util.Random;
import java.util.Set;

/** Calls of all kinds with any numbers: they end, throw nothing, and make nothing. */
public final class RoomTests {
    private static final int[] EDGES = {
        -1, 0, 1, 2, 3, 4, 5, 7, 8, 9, 15, 16, 17, 32, 255, 256, -2, -3, -16, 4096, Integer.MAX_VALUE, Integer.MIN_VALUE
    };
    private static final String[] WORDS = {"net 8", "net 7;", "road 0 1", ";way 2 3", "road 6 7", ";", " ", "way 7 0"};
    private static final Check CHECK = new Check("RoomTests");
    private static final Random RANDOM = new Random(512);

    public static void main(String[] args) throws IllegalAccessException {
        long[] words = new long[WORDS.length];
        for (int i = 0; i < WORDS.length; i++) {
            words[i] = Texts.bytes(WORDS[i]);
        }
        com.sun.management.ThreadMXBean room = (com.sun.management.ThreadMXBean) ManagementFactory.getThreadMXBean();
        long self = Thread.currentThread().getId();
        for (int run = 0; run < 200; run++) {
            RunnerNet x = new RunnerNet();
            int[] before = sizeOf(x);
            CHECK.holds("objects " + before[0], before[0] < 200);
            CHECK.holds("fields and elements " + before[1], before[1] < 40000);
            room.getThreadAllocatedBytes(self);
            long bytes = room.getThreadAllocatedBytes(self);
            long sum = 0;
            for (int call = 0; call < 512; call++) {
                sum += call(x, words, run % 4);
            }
            bytes = room.getThreadAllocatedBytes(self) - bytes;
            CHECK.holds("answers " + sum, sum != Long.MIN_VALUE);
            CHECK.holds("made in a run: " + bytes + " bytes", run < 4 || bytes < 4096);
            int[] behind = sizeOf(x);
            CHECK.due("objects behind 512 calls", before[0], behind[0]);
            CHECK.due("elements behind 512 calls", before[1], behind[1]);
        }
        CHECK.end();
    }

    private static int any(int wild) {
        if (wild == 0 && RANDOM.nextInt(4) == 0) {
            return EDGES[RANDOM.nextInt(EDGES.length)];
        }
        return wild == 1 ? RANDOM.nextInt() : RANDOM.nextInt(5);
    }

    private static long call(RunnerNet x, long[] words, int wild) {
        int a = any(wild);
        int b = any(wild);
        int c = any(wild);
        int d = any(wild);
        boolean is = RANDOM.nextInt(3) > 0;
        switch (RANDOM.nextInt(30)) {
            case 0: return x.write(words[RANDOM.nextInt(words.length)], wild == 0 ? 8 : a);
            case 1: return x.write(RANDOM.nextLong(), a);
            case 2: return x.erase();
            case 3: return x.fault();
            case 4: return x.laid();
            case 5: case 6: return x.road(a, b, is, c > 0);
            case 7: return x.steps(a);
            case 8: return x.far(a, b);
            case 9: return x.rounds(a, b, c, d);
            case 10: return x.worth(a, b, c);
            case 11: return x.best(a, b, c);
            case 12: return x.fewest(a);
            case 13: return x.escapes(a, b);
            case 14: return x.hunt(a, b, c, d);
            case 15: return x.flee(a, b, c, d);
            case 16: return x.play(a, b, c, d);
            case 17: case 18: return x.turn(a - 1, b - 1);
            case 19: return x.now(a);
            case 20: return x.spread(a, b, c);
            case 21: return x.clear(a, b, c);
            case 22: return x.free(a, b);
            case 23: return x.flying(is, a);
            case 24: return x.away(a);
            case 25: return x.least(a);
            case 26: return x.safe(a, b);
            case 27: return x.guards(a, b);
            case 28: return x.answer(a, b, c);
            default: return x.count(a);
        }
    }

    /** How many objects and arrays hang on an object, and how many fields and elements they have. */
    private static int[] sizeOf(Object top) throws IllegalAccessException {
        Set<Object> met = Collections.newSetFromMap(new IdentityHashMap<>());
        Deque<Object> open = new ArrayDeque<>();
        open.add(top);
        int[] size = new int[2];
        while (!open.isEmpty()) {
            Object object = open.remove();
            if (!met.add(object)) {
                continue;
            }
            size[0]++;
            if (object.getClass().isArray()) {
                int length = Array.getLength(object);
                size[1] += length;
                for (int i = 0; i < length && !object.getClass().getComponentType().isPrimitive(); i++) {
                    open.add(Array.get(object, i));
                }
                continue;
            }
            for (Field field : object.getClass().getDeclaredFields()) {
                if (Modifier.isStatic(field.getModifiers())) {
                    continue;
                }
                size[1]++;
                field.setAccessible(true);
                Object held = field.get(object);
                if (!field.getType().isPrimitive() && held != null) {
                    open.add(held);
                }
            }
        }
        return size;
    }
}
