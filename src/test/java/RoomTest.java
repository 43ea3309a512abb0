import java.lang.management.ManagementFactory;
import java.lang.reflect.Array;
import java.lang.reflect.Field;
import java.lang.reflect.Modifier;
import java.util.ArrayDeque;
import java.util.Collections;
import java.util.IdentityHashMap;
import java.util.Set;

/** One object is small, and its calls make none: a run of many objects and calls has room. */
public final class RoomTest {
    private static final int MOST_OBJECTS = 400;
    private static final int MOST_ELEMENTS = 20000;

    public static void main(String[] args) throws IllegalAccessException {
        Bench b = new Bench("room");
        long[] room = room(new OneBreath());
        System.out.println("room: " + room[0] + " objects and arrays, " + room[1] + " fields and elements");
        b.due("few objects and arrays", room[0] <= MOST_OBJECTS ? 1 : 0, 1);
        b.due("few fields and elements", room[1] <= MOST_ELEMENTS ? 1 : 0, 1);

        com.sun.management.ThreadMXBean threads =
                (com.sun.management.ThreadMXBean) ManagementFactory.getThreadMXBean();
        long id = Thread.currentThread().getId();
        OneBreath x = new OneBreath();
        int[] tongue = new int[1];
        everyCall(x, tongue);
        x = new OneBreath();
        long idle = threads.getThreadAllocatedBytes(id);
        idle = threads.getThreadAllocatedBytes(id) - idle;
        long before = threads.getThreadAllocatedBytes(id);
        everyCall(x, tongue);
        long made = threads.getThreadAllocatedBytes(id) - before - idle;
        b.due("bytes made by all calls", made, 0);
        b.due("the tongue was read", tongue[0], 9);
        b.due("the room has not grown", room(x)[1], room[1]);
        b.end();
    }

    /** Objects and arrays, fields and elements that hang on an object. */
    private static long[] room(Object root) throws IllegalAccessException {
        Set<Object> seen = Collections.newSetFromMap(new IdentityHashMap<>());
        ArrayDeque<Object> queue = new ArrayDeque<>();
        queue.add(root);
        seen.add(root);
        long parts = 0;
        while (!queue.isEmpty()) {
            Object o = queue.poll();
            if (o.getClass().isArray()) {
                parts += Array.getLength(o);
                for (int i = 0; i < Array.getLength(o) && !o.getClass().getComponentType().isPrimitive(); i++) {
                    Object part = Array.get(o, i);
                    if (part != null && seen.add(part)) {
                        queue.add(part);
                    }
                }
                continue;
            }
            for (Field f : o.getClass().getDeclaredFields()) {
                if (!Modifier.isStatic(f.getModifiers())) {
                    parts++;
                    f.setAccessible(true);
                    Object part = f.getType().isPrimitive() ? null : f.get(o);
                    if (part != null && seen.add(part)) {
                        queue.add(part);
                    }
                }
            }
        }
        return new long[] {seen.size(), parts};
    }

    private static final byte[] TEXT = ("sounds abcd;open a;like b c;word a use 5 kind 0;word ab use 3 kind 0;"
            + "word ba use 2 kind 1;word dabcab use 7 kind 2;shape os;never 2 2;").getBytes();
    private static final byte[] LINE = "abaabaababadabcab".getBytes();

    private static void put(OneBreath x, byte[] bytes) {
        for (int i = 0; i < bytes.length; i += 20) {
            x.feed(four(bytes, i), four(bytes, i + 4), four(bytes, i + 8), four(bytes, i + 12), four(bytes, i + 16));
        }
    }

    private static int four(byte[] bytes, int from) {
        int four = 0;
        for (int i = from; i < from + 4; i++) {
            four = four << 8 | (i < bytes.length ? bytes[i] : 32);
        }
        return four;
    }

    private static void everyCall(OneBreath x, int[] tongue) {
        put(x, TEXT);
        tongue[0] = x.tongue(TEXT.length);
        put(x, LINE);
        x.spelt(3);
        put(x, LINE);
        x.adds(0, 5, 2);
        put(x, LINE);
        x.fitted(9, 0);
        put(x, LINE);
        x.line(LINE.length);
        x.numbers(0, 0, 20);
        x.write(0, 1, 3);
        for (int i = -1; i < 14; i++) {
            x.fault(i);
            x.behind(i);
            x.ends(i);
            x.near(i);
            x.say(i);
            x.at(i);
            x.cuts(i);
            x.bound(i);
            x.unsure(i);
            x.unsureAt(i);
            x.mended(i);
            x.changed(i);
            x.paused(i);
            x.begun(i);
            x.code(i);
            x.said(i);
            x.image(i);
            x.restore(i);
            x.count(i);
            for (int k = -1; k < 14; k++) {
                x.sound(i, k);
                x.word(i, k);
                x.shape(i, k);
                x.unlike(i, k);
                x.judge(i, k);
                x.cut(i, k);
                x.added(i, k);
                x.richest(i, k);
                x.limb(i, k);
                x.copy(i, k);
                x.noise(i, k, 50, k);
                x.asked(i, k, 50);
            }
        }
        x.mistakes();
        x.bears();
        x.talk();
        x.endless();
        x.longest();
        x.tree();
    }
}
