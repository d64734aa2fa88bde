import java.lang.management.ManagementFactory;
import java.lang.reflect.Array;
import java.lang.reflect.Field;
import java.lang.reflect.Modifier;
import java.util.ArrayDeque;
import java.util.Collections;
import java.util.Deque;
import java.util.IdentityHashMap;
import java.util.Set;

/**
 * All calls of one run live in one room (600,000 objects and arrays, 7.3 million fields and
 * elements): what a new object takes, and that its dearest calls take next to nothing more.
 */
public final class RoomTest {
    private static final int OBJECTS = 20;
    /** 18 calls each: an object is used for at most 512. */
    private static final int ROUNDS = 28;

    public static void main(String[] args) throws IllegalAccessException {
        long[] taken = room(new StairsNear());
        System.out.println("a new object: " + taken[0] + " objects and arrays, " + taken[1] + " fields and elements");
        Check.due("at most 3,000 objects", taken[0] <= 3_000, true);
        Check.due("at most 150,000 elements", taken[1] <= 150_000, true);
        // What the machine itself makes at first is not counted.
        dearCalls(newObjects());
        StairsNear[] objects = newObjects();
        long before = allocated();
        dearCalls(objects);
        long bytes = allocated() - before;
        System.out.println("the dearest calls, " + OBJECTS * ROUNDS + " of each: " + bytes + " bytes");
        // ring() makes one object; all others none.
        Check.due("at most 24 bytes a ring()", bytes <= 24L * OBJECTS * ROUNDS + 4_096, true);
        for (StairsNear x : objects) {
            Check.due("the object has not grown", room(x)[1] <= taken[1], true);
        }
        Check.finish();
    }

    private static StairsNear[] newObjects() {
        StairsNear[] objects = new StairsNear[OBJECTS];
        for (int i = 0; i < OBJECTS; i++) {
            objects[i] = new StairsNear();
        }
        return objects;
    }

    private static void dearCalls(StairsNear[] objects) {
        for (StairsNear x : objects) {
            for (int i = 0; i < ROUNDS; i++) {
                dearCalls(x, i);
            }
        }
    }

    private static long allocated() {
        com.sun.management.ThreadMXBean threads = (com.sun.management.ThreadMXBean) ManagementFactory.getThreadMXBean();
        return threads.getThreadAllocatedBytes(Thread.currentThread().getId());
    }

    private static void dearCalls(StairsNear x, int i) {
        x.ring(i % 3 + 1, 32003);
        x.weights(1, 1, 1 + i % 2);
        x.feed(0x782B785E, 0x322B3378, 0x5E333539, 0x785E3220, 0x2B313178);
        x.poly(0);
        x.feed(0x782D785E, 0x332B3378, 0x5E333539, 0x785E3720, 0x2B313178);
        x.poly(1);
        x.make(2, 0, 1, 2);
        x.make(2, 2, 2, 3);
        x.part(3, 0, 4);
        x.show(3);
        x.weak(3, 6);
        x.kept(1, 5);
        x.corners(63, 8);
        x.stair(62, 8, 3, 0);
        x.rest(3, 4, 8, 6);
        x.length(62, 1);
        x.number(3, 1);
        x.step(-1, 2);
    }

    private static long[] room(Object root) throws IllegalAccessException {
        Set<Object> met = Collections.newSetFromMap(new IdentityHashMap<>());
        Deque<Object> left = new ArrayDeque<>();
        left.add(root);
        met.add(root);
        long elements = 0;
        while (!left.isEmpty()) {
            Object one = left.poll();
            if (one.getClass().isArray()) {
                elements += Array.getLength(one);
                for (int i = 0; one instanceof Object[] && i < Array.getLength(one); i++) {
                    meet(Array.get(one, i), met, left);
                }
                continue;
            }
            for (Field field : one.getClass().getDeclaredFields()) {
                if (Modifier.isStatic(field.getModifiers())) {
                    continue;
                }
                elements++;
                field.setAccessible(true);
                if (!field.getType().isPrimitive()) {
                    meet(field.get(one), met, left);
                }
            }
        }
        return new long[] {met.size(), elements};
    }

    private static void meet(Object one, Set<Object> met, Deque<Object> left) {
        if (one != null && met.add(one)) {
            left.add(one);
        }
    }
}
