import java.lang.management.ManagementFactory;
import java.lang.reflect.Array;
import java.lang.reflect.Field;
import java.lang.reflect.Modifier;
import java.util.ArrayDeque;
import java.util.Collections;
import java.util.Deque;
import java.util.IdentityHashMap;
import java.util.Set;

/**
 * LANGUAGE.md, rule 12, and the one room in which all calls of a run live: a new object is small,
 * and no call makes an object.
 */
public final class RoomTest {
    private static final Harness T = new Harness("RoomTest");
    private static final com.sun.management.ThreadMXBean THREADS =
        (com.sun.management.ThreadMXBean) ManagementFactory.getThreadMXBean();

    public static void main(String[] args) throws IllegalAccessException {
        newObject();
        calls();
        T.finish();
    }

    private static void newObject() throws IllegalAccessException {
        Set<Object> seen = Collections.newSetFromMap(new IdentityHashMap<>());
        Deque<Object> open = new ArrayDeque<>();
        open.add(new QuarterBoards());
        long elements = 0;
        while (!open.isEmpty()) {
            Object one = open.remove();
            if (!seen.add(one)) {
                continue;
            }
            elements += one.getClass().isArray() ? arrayElements(one, open) : objectFields(one, open);
        }
        T.due("objects and arrays of one house: " + seen.size(), seen.size() <= 1000, true);
        T.due("fields and elements of one house: " + elements, elements <= 10000, true);
    }

    private static int arrayElements(Object array, Deque<Object> open) {
        int length = Array.getLength(array);
        for (int i = 0; i < length && !array.getClass().getComponentType().isPrimitive(); i++) {
            if (Array.get(array, i) != null) {
                open.add(Array.get(array, i));
            }
        }
        return length;
    }

    private static int objectFields(Object one, Deque<Object> open) throws IllegalAccessException {
        int many = 0;
        for (Field field : one.getClass().getDeclaredFields()) {
            if (!Modifier.isStatic(field.getModifiers())) {
                many++;
                field.setAccessible(true);
                if (!field.getType().isPrimitive() && field.get(one) != null) {
                    open.add(field.get(one));
                }
            }
        }
        return many;
    }

    private static void calls() {
        long least = Long.MAX_VALUE;
        // what the machine itself makes on the first rounds is none of the class's own
        for (int round = 0; round < 8 && least > 0; round++) {
            QuarterBoards x = Harness.house(Harness.eightAndSix()
                .replace("outline oa=ba;", "outline oa=box 0 0 8 1;").replace("outline ob=ba;", "outline ob=box 0 0 4 2;"));
            long before = THREADS.getThreadAllocatedBytes(Thread.currentThread().getId());
            allCalls(x);
            least = Math.min(least, THREADS.getThreadAllocatedBytes(Thread.currentThread().getId()) - before);
        }
        T.due("bytes of objects that the calls make", least, 0);
    }

    private static void allCalls(QuarterBoards x) {
        x.back(0);
        x.place();
        for (int k = 0; k < 6; k++) {
            x.area(true, k);
            x.has(true, k, 0);
            x.pieces(true, k);
            x.corners(true, k, true);
            x.bulges(true, k);
            x.images(true, k);
            x.least(true, k, 3);
            x.alike(0, k);
            x.sets(k);
            x.set(k, 0);
            x.needed(k);
            x.cut(0, k);
            x.part(0);
            x.laid(0);
            x.lay(k, 0, k, 0);
            x.covers(0);
            x.clashes();
            x.shows();
            x.claim(0, k, 1);
            x.verdict(k);
            x.first(k, 1);
            x.points(0, 1);
            x.annul(0);
            x.lift(k);
            x.fill(k, 255);
            x.filled(k, 0);
            x.steps();
            x.count(k);
        }
        // "board z=cell 0 0 ;  " and its twenty bytes once more, which tell z twice, and then alone
        for (int texts = 2; texts >= 1; texts--) {
            for (int i = 0; i < texts; i++) {
                x.feed(0x626f6172, 0x64207a3d, 0x63656c6c, 0x20302030, 0x203b2020);
            }
            x.read();
        }
        readEightAndSix(x);
    }

    /** As many boards and outlines as there may be. */
    private static void readEightAndSix(QuarterBoards x) {
        for (int i = 0; i < 8; i++) {
            // "board ?=box 0 0 2 1;"
            x.feed(0x626f6172, 0x64200000 | 'a' + i << 8 | '=', 0x626f7820, 0x30203020, 0x3220313b);
        }
        for (int i = 0; i < 6; i++) {
            // "outline ?=cell 3 3 ;"
            x.feed(0x6f75746c, 0x696e6520, 'm' + i << 24 | 0x3d6365, 0x6c6c2033, 0x2033203b);
        }
        if (x.read() != 0) {
            T.due("read() of eight boards and six outlines", x.place(), -1);
        }
    }
}
