import java.lang.management.ManagementFactory;
import java.lang.reflect.Method;

/**
 * An object and its 512 calls have room enough: some 600,000 objects and arrays, 7.3 million fields and
 * elements, told here in bytes. Once the tree is built, all calls are of one kind.
 */
public final class RoomTest extends Trees {
    private static final long BYTES = 600_000L * 16 + 7_300_000L * 4;
    private static final com.sun.management.ThreadMXBean THREADS =
            (com.sun.management.ThreadMXBean) ManagementFactory.getThreadMXBean();

    private RoomTest() {
    }

    public static void main(String[] args) throws Exception {
        Method[] methods = Face.methods(BusRanges.class);
        for (int call = 0; call < methods.length; call++) {
            measure(methods[call], Face.arguments(call));
        }
        Due.end();
    }

    private static void measure(Method method, int count) throws Exception {
        int[] arguments = arguments(method.getName(), count);
        long before = made();
        BusRanges x = new BusRanges();
        int calls = build(x);
        for (; calls < Replay.MOST_CALLS - 1; calls += 2) {
            Face.call(method, x, arguments);
            x.undo();
        }
        long bytes = made() - before;
        Due.is(method.getName() + " takes " + bytes + " bytes", bytes < BYTES, true);
    }

    private static long made() {
        return THREADS.getThreadAllocatedBytes(Thread.currentThread().getId());
    }

    private static int[] arguments(String name, int count) {
        int[] arguments = new int[count];
        if (count == 1 && !name.equals("image") && !name.equals("back")) {
            arguments[0] = 8;
        }
        if (name.equals("chance")) {
            arguments[1] = 10;
        }
        return arguments;
    }

    /**
     * Behind BRIDGE 0 a WINDOW of 32, of which ENDPOINTS 1 .. 7 have 2 units, 1 and 1 each; then 1 is
     * stopped. ENDPOINT 8 has 8 units, for which the three of 7 must move: the last row of all.
     */
    private static int build(BusRanges x) {
        x.bridge(NONE, 0, 2, 32);
        x.start(0);
        for (int slot = 0; slot < 7; slot++) {
            x.start(endpoint(x, 0, slot, 0, 1, 0, 0, 0, 0));
        }
        x.stop(1);
        endpoint(x, 0, 7, 0, 3);
        Due.is("the last row of all", x.moves(8), 3);
        return 2 + 7 * 5 + 1 + 2 + 1;
    }
}
