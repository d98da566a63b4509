import com.sun.management.ThreadMXBean;
import java.lang.management.ManagementFactory;
import java.lang.reflect.Array;
import java.lang.reflect.Field;
import java.lang.reflect.Modifier;
import java.util.Collections;
import java.util.IdentityHashMap;
import java.util.Random;
import java.util.Set;

/** All calls of one run live in one room (LANGUAGE.md, rule 12): what an object holds, and what its calls make. */
public final class RoomTest {
    private static final int MOST_OBJECTS = 60;
    private static final int MOST_ELEMENTS = 6_000;
    private static final int RUNS = 200;
    private static final int CALLS = 512;

    private static long answers = 0;

    public static void main(String[] args) throws IllegalAccessException {
        boolean wrong = false;
        FoldedGroups groups = new FoldedGroups(3);
        play(groups, numbers(0));
        Set<Object> objects = Collections.newSetFromMap(new IdentityHashMap<>());
        int elements = count(groups, objects);
        System.out.println("an object holds " + objects.size() + " objects with " + elements + " fields and elements");
        if (objects.size() > MOST_OBJECTS || elements > MOST_ELEMENTS) {
            System.out.println("due are at most " + MOST_OBJECTS + " with " + MOST_ELEMENTS);
            wrong = true;
        }
        long made = 0;
        for (int seed = 0; seed < RUNS; seed++) {
            made += bytesMade(new FoldedGroups(1 + seed % 3), numbers(seed));
        }
        System.out.println(RUNS * CALLS + " calls make " + made + " bytes (" + answers + ")");
        // the smallest object has 16 bytes; some of Java's own are made now and then
        if (made > RUNS * CALLS) {
            System.out.println("due is that no call makes an object");
            wrong = true;
        }
        System.exit(wrong ? 1 : 0);
    }

    private static int[] numbers(int seed) {
        return new Random(seed).ints(4 * CALLS, 0, 1 << 20).toArray();
    }

    private static long bytesMade(FoldedGroups groups, int[] numbers) {
        ThreadMXBean threads = (ThreadMXBean) ManagementFactory.getThreadMXBean();
        long before = threads.getThreadAllocatedBytes(Thread.currentThread().getId());
        play(groups, numbers);
        return threads.getThreadAllocatedBytes(Thread.currentThread().getId()) - before;
    }

    private static void play(FoldedGroups groups, int[] numbers) {
        for (int n = 0; n < 4 * CALLS; n += 4) {
            answers += call(groups, numbers[n] % 30, numbers[n + 1] % 5, numbers[n + 2] % 5, numbers[n + 3] % 7 - 3);
        }
    }

    /** Letters and words that generate come more often, so that the graphs grow. */
    private static int call(FoldedGroups x, int kind, int s, int t, int i) {
        switch (kind) {
            case 0: return x.clear();
            case 1: return x.invert();
            case 2: return x.at(i);
            case 3: return x.take(s, t);
            case 4: return x.drop(s);
            case 5: return x.conjugate(s, t);
            case 6: return x.meet(s, t, Math.abs(i));
            case 7: return x.join(s, t, Math.abs(i));
            case 8: return x.member(s) ? 1 : 0;
            case 9: return x.trace(s);
            case 10: return x.written(s, i);
            case 11: return x.length(s, i);
            case 12: return x.basis(s, t, i);
            case 13: return x.target(s, t, i);
            case 14: return x.figure(s, t);
            case 15: return x.contains(s, t) ? 1 : 0;
            case 16: return x.normal(s) ? 1 : 0;
            case 17, 18, 19, 20: return x.generate(s);
            default: return x.letter(i);
        }
    }

    private static int count(Object held, Set<Object> objects) throws IllegalAccessException {
        if (held == null || !objects.add(held)) {
            return 0;
        }
        int elements = 0;
        if (held.getClass().isArray()) {
            elements += Array.getLength(held);
            for (int i = 0; i < Array.getLength(held) && !held.getClass().getComponentType().isPrimitive(); i++) {
                elements += count(Array.get(held, i), objects);
            }
            return elements;
        }
        for (Field field : held.getClass().getDeclaredFields()) {
            if (!Modifier.isStatic(field.getModifiers())) {
                field.setAccessible(true);
                elements++;
                elements += field.getType().isPrimitive() ? 0 : count(field.get(held), objects);
            }
        }
        return elements;
    }
}
