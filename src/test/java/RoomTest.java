import java.lang.management.ManagementFactory;
import java.lang.reflect.Method;

/**
 * An object and its 512 calls have room enough: some 600,000 objects and arrays, 7.3 million fields and
 * elements, told here in bytes. Once the tree is built, all calls are of one kind.
 */
public final class RoomTest extends Trees {
    private static final long BYTES = 600_000L * 16 + 7_300_000L * 4;
    private static final com.sun.management.ThreadMXBean THREADS =
            (com.sun.management.ThreadMXBean) ManagementFactory.getThreadMXBean();

    private RoomTest() {
    }

    public static void main(String[] args) throws Exception {
        Method[] methods = Face.methods(BusRanges.class);
        for (int call = 0; call < methods.length; call++) {
            measure(methods[call], Face.arguments(call), Face.changes(call));
        }
        Due.end();
    }

    private static void measure(Method method, int count, boolean changes) throws Exception {
        int[] arguments = arguments(method.getName(), count);
        long before = made();
        BusRanges x = lastRow();
        x.unplug(1);
        x.bridge(NONE, 1, 3, 64);
        x.endpoint(1, 0);
        for (int calls = 64; calls < Replay.MOST_CALLS; calls += 2) {
            Face.call(method, x, arguments);
            if (changes) {
                x.undo();
            } else {
                Face.call(method, x, arguments);
            }
        }
        long bytes = made() - before;
        Due.is(method.getName() + " takes " + bytes + " bytes", bytes < BYTES, true);
    }

    private static long made() {
        return THREADS.getThreadAllocatedBytes(Thread.currentThread().getId());
    }

    private static int[] arguments(String name, int count) {
        int[] arguments = new int[count];
        if (count == 1 && !name.equals("image") && !name.equals("back")) {
            arguments[0] = 7;
        }
        if (name.equals("chance")) {
            arguments[1] = 10;
        }
        return arguments;
    }
}
