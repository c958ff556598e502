import java.lang.management.ManagementFactory;
import java.lang.reflect.Array;
import java.lang.reflect.Field;
import java.lang.reflect.Modifier;
import java.util.IdentityHashMap;
import java.util.Map;

/** The dearest calls make nothing new and end in time; calls with any arguments never throw. */
public final class RoomTest {
    private static final int CALLS = 512, OBJECTS = 600_000, ITEMS = 7_300_000;
    private static final int[] STRANGE = {0, 1, -1, 2, -2, 3, 5, 6, 9, 10, 12, 13, 59, 60, 61, 63, 64, 99, 255, 256,
        1023, 1024, 99999, 100000, Integer.MAX_VALUE, Integer.MAX_VALUE - 1, Integer.MIN_VALUE, Integer.MIN_VALUE + 1};
    private static final Due due = new Due("RoomTest");
    private static long told;

    public static void main(String[] args) {
        NamedDwarf warm = full();
        dearest(warm);
        NamedDwarf x = full();
        told += x.digest();
        long before = made();
        dearest(x);
        long after = made();
        due.holds("512 dearest calls make nothing: " + (after - before) + " bytes", after - before < 20000);
        room();
        last();
        strange(new NamedDwarf());
        strange(full());
        due.holds("all were asked", told != 1);
        due.end();
    }

    /** A run of 512 calls that makes objects, alone or with the call that makes most, stays in the room. */
    private static void room() {
        int bare = items(new NamedDwarf(), new IdentityHashMap<>());
        NamedDwarf x = full();
        told += x.digest();
        Map<Object, Object> found = new IdentityHashMap<>();
        int asked = items(x, found);
        due.holds("512 objects: " + bare + " fields and elements each", bare * CALLS < ITEMS / 2);
        due.holds("256 objects, each asked: " + asked, asked * CALLS / 2 < ITEMS);
        due.holds("objects and arrays of 512: " + found.size() + " each", found.size() * CALLS < OBJECTS);
    }

    /** How many fields and elements are in an object and in all that it holds. */
    private static int items(Object it, Map<Object, Object> found) {
        if (it == null || found.put(it, it) != null) {
            return 0;
        }
        int many = it.getClass().isArray() ? Array.getLength(it) : 0;
        if (it instanceof Object[] row) {
            for (Object inside : row) {
                many += items(inside, found);
            }
        }
        for (Field field : it.getClass().getDeclaredFields()) {
            if (!Modifier.isStatic(field.getModifiers())) {
                many += 1 + (field.getType().isPrimitive() ? 0 : items(valueOf(field, it), found));
            }
        }
        return many;
    }

    private static Object valueOf(Field field, Object it) {
        try {
            field.setAccessible(true);
            return field.get(it);
        } catch (IllegalAccessException e) {
            throw new IllegalStateException(e);
        }
    }

    /** "An object is used for at most 512 calls": the last of them is answered as any other. */
    private static void last() {
        NamedDwarf x = new NamedDwarf();
        for (int call = 1; call <= CALLS - 2; call += 2) {
            told += x.type(0, '1') + x.undo(0);
        }
        due.answer("call 511", x.type(0, '1'), 1);
        due.answer("call 512", x.fault(0), 1);
    }

    private static long made() {
        com.sun.management.ThreadMXBean threads = (com.sun.management.ThreadMXBean) ManagementFactory.getThreadMXBean();
        return threads.getThreadAllocatedBytes(Thread.currentThread().getId());
    }

    /** Ten names that each place tells apart a little, the longest texts, twelve nights and guesses. */
    private static NamedDwarf full() {
        NamedDwarf x = new NamedDwarf();
        Scene.more(x, 0, "9abcdef;8bacdef;7aacdef;6abddef;5abcfef;4abcdff;3abcdee;2abcde;1fbcdef;9cbcdef");
        Scene.more(x, 1, "-fff;-bbb;-eee;-ddd;-ccc;-aaa");
        x.set(2, 12);
        x.set(0, 99);
        for (int i = 0; i < 12; i++) {
            x.guess(i % 10);
        }
        for (int s = 0; s < 4; s++) {
            x.sheet(s, s % 3, 60);
        }
        due.answer("ten names", x.count(0), 10);
        due.answer("all fit", x.fits(), 1023);
        return x;
    }

    /** Each undoes what was reckoned ahead of it. */
    private static void dearest(NamedDwarf x) {
        for (int i = 0; i < CALLS; i += 4) {
            told += x.undo(0);
            told += x.type(0, 'a' + i / 4 % 6);
            told += x.set(1, i / 4 % 100);
            told += x.digest();
        }
    }

    private static void strange(NamedDwarf x) {
        for (int a : STRANGE) {
            told += x.undo(a) + x.fault(a) + x.guess(a) + x.heard(a) + x.off(a) + x.row(a) + x.mean(a);
            told += x.listen(a) + x.sure() + x.spun(a) + x.shortest(a) + x.write(a) + x.read(a) + x.count(a) + x.fits();
            for (int b : STRANGE) {
                told += x.name(a, b) + x.chance(a, b) + x.named(a, b) + x.sung(a, b) + x.changes(a, b);
                for (int c : STRANGE) {
                    told += x.wisest(a, b, c) + x.pool(a, b, c) + x.get(a, b, c) + x.lay(a, b, c, a);
                }
                for (int c : STRANGE) {
                    told += x.copy(a & 3, b, a >> 2 & 3, c, b) + x.copy(0, a, 3, b, c) + x.copy(a, 0, b, 0, c);
                }
            }
        }
        for (int a : STRANGE) {
            for (int b : STRANGE) {
                told += x.set(a, b) + x.digest();
                told += x.sheet(a, b, a) + x.sheet(a & 3, b & 1, b);
                told += x.type(a, b) + x.digest();
            }
        }
        for (int a : STRANGE) {
            told += x.lose(a) + x.wipe(a) + x.unguess() + x.digest();
        }
    }
}
