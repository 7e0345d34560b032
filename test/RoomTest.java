import java.lang.management.ManagementFactory;
import java.lang.reflect.Array;
import java.lang.reflect.Field;
import java.lang.reflect.Modifier;
import java.util.ArrayList;
import java.util.Collections;
import java.util.IdentityHashMap;
import java.util.List;
import java.util.Set;

/**
 * "An object is used for at most 512 calls": the dearest ones there can be leave an object no larger than it was made,
 * and make nothing on their way; all calls of one run live in one room.
 */
public final class RoomTest {
    private static final int CALLS = 512;
    private static final int MOST_OBJECTS = 40;
    private static final int MOST_ELEMENTS = 20_000;
    private static final long MOST_BYTES = 100_000;

    private static final Due due = new Due("RoomTest");

    public static void main(String[] args) throws IllegalAccessException {
        dearestCalls(new NotionRounds());
        NotionRounds x = new NotionRounds();
        String asMade = size(x);
        long before = bytes();
        long sum = dearestCalls(x);
        long made = bytes() - before;
        due.is("bytes that 512 calls made, far too many: " + made, made > MOST_BYTES ? 1 : 0, 0);
        due.is("objects and elements: " + asMade + " as made, " + size(x) + " behind 512 calls", asMade.equals(size(x)) ? 1 : 0, 1);
        NotionRounds y = new NotionRounds();
        due.is("the same calls give the same answers", dearestCalls(y), sum);
        due.end();
    }

    /** 1748 conclusions, 20 times; then the proofs of the last ones, digests, parents, and all that the house tells. */
    private static long dearestCalls(NotionRounds x) {
        long sum = 0;
        int calls = 0;
        for (int n = 2; n < 20; n++) {
            sum += x.has(0, n - 1) + x.say(0, n);
            calls += 2;
        }
        for (int a = 0; a < 22; a++) {
            sum += a < 16 ? x.chain(a / 4, a % 4, (a + a / 4) % 4) : x.role(a % 4, (a + 1) % 4);
            calls++;
        }
        for (int i = 0; i < 20; i++) {
            sum += x.conclude();
            calls++;
        }
        due.is("conclude()", x.conclude(), NotionRounds.STATE);
        calls++;
        for (int i = 0; calls < CALLS; i++, calls++) {
            sum = 31 * sum + dearTold(x, i);
        }
        return sum;
    }

    private static long dearTold(NotionRounds x, int i) {
        switch (i % 7) {
            case 0: return x.digest();
            case 1: return x.proof(1747 - i);
            case 2: return x.parent(i % 2, 3);
            case 3: return x.holds(i % 40);
            case 4: return x.pair(i % 20, i % 4, 19);
            case 5: return x.isOf(i % 20, i % 19);
            default: return x.like(1);
        }
    }

    private static long bytes() {
        return ((com.sun.management.ThreadMXBean) ManagementFactory.getThreadMXBean()).getCurrentThreadAllocatedBytes();
    }

    /** How many objects and arrays an object holds, itself too, and how many fields and elements they have. */
    private static String size(NotionRounds x) throws IllegalAccessException {
        Set<Object> seen = Collections.newSetFromMap(new IdentityHashMap<>());
        List<Object> found = new ArrayList<>(List.of(x));
        seen.add(x);
        int elements = 0;
        for (int i = 0; i < found.size(); i++) {
            Object one = found.get(i);
            if (one.getClass().isArray()) {
                elements += Array.getLength(one);
                continue;
            }
            for (Field field : one.getClass().getDeclaredFields()) {
                if (Modifier.isStatic(field.getModifiers())) {
                    continue;
                }
                elements++;
                field.setAccessible(true);
                Object held = field.getType().isPrimitive() ? null : field.get(one);
                if (held != null && seen.add(held)) {
                    found.add(held);
                }
            }
        }
        due.is("objects and arrays of one object, far too many: " + found.size(), found.size() > MOST_OBJECTS ? 1 : 0, 0);
        due.is("fields and elements of one object, far too many: " + elements, elements > MOST_ELEMENTS ? 1 : 0, 0);
        return found.size() + ", " + elements;
    }
}
