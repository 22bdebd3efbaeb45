import java.lang.management.ManagementFactory;
import java.lang.reflect.Array;
import java.lang.reflect.Field;
import java.lang.reflect.Modifier;
import java.util.ArrayDeque;
import java.util.Collections;
import java.util.Deque;
import java.util.IdentityHashMap;
import java.util.Set;

/** The constructor makes all there will be, and little; calls make no objects. */
public final class RoomTest {
    private RoomTest() {
    }

    public static void main(String[] args) throws Exception {
        constructor();
        calls();
        Due.end();
    }

    private static void constructor() throws Exception {
        Set<Object> seen = Collections.newSetFromMap(new IdentityHashMap<>());
        Deque<Object> open = new ArrayDeque<>();
        BusRanges x = new BusRanges();
        open.add(x);
        seen.add(x);
        long elements = 0;
        while (!open.isEmpty()) {
            Object o = open.remove();
            if (o.getClass().isArray()) {
                elements += Array.getLength(o);
                for (int i = 0; o instanceof Object[] && i < Array.getLength(o); i++) {
                    visit(Array.get(o, i), seen, open);
                }
                continue;
            }
            for (Field f : o.getClass().getDeclaredFields()) {
                if (!Modifier.isStatic(f.getModifiers())) {
                    elements++;
                    f.setAccessible(true);
                    if (!f.getType().isPrimitive()) {
                        visit(f.get(o), seen, open);
                    }
                }
            }
        }
        Due.is("few objects: " + seen.size(), seen.size() < 300, true);
        Due.is("few fields and elements: " + elements, elements < 20000, true);
    }

    private static void visit(Object o, Set<Object> seen, Deque<Object> open) {
        if (o != null && seen.add(o)) {
            open.add(o);
        }
    }

    private static void calls() {
        com.sun.management.ThreadMXBean threads =
                (com.sun.management.ThreadMXBean) ManagementFactory.getThreadMXBean();
        BusRanges x = new BusRanges();
        work(x);
        long id = Thread.currentThread().getId();
        long before = threads.getThreadAllocatedBytes(id);
        long between = threads.getThreadAllocatedBytes(id);
        work(x);
        long after = threads.getThreadAllocatedBytes(id);
        // Asking costs some bytes itself, as often as not.
        Due.is("no bytes for calls", Math.max(0, after - between - (between - before)), 0);
    }

    /** Every call, also of what searches longest. */
    private static void work(BusRanges x) {
        x.unplug(0);
        x.space(0, 64);
        x.bridge(-1, 0, 2, 64);
        for (int slot = 0; slot < 8; slot++) {
            int device = x.endpoint(slot < 7 ? 0 : -1, slot);
            for (int a = 0; a < 3; a++) {
                x.aperture(device, a / 2, slot % 3);
            }
        }
        x.powerUp();
        x.stop(3);
        x.stop(5);
        int device = x.endpoint(0, 7);
        x.aperture(device, 0, 5);
        x.shift(3, -1, 3);
        x.moves(device);
        x.rebalance(device);
        x.start(3);
        for (int i = -1; i < 21; i++) {
            for (int what = 0; what < 10; what++) {
                ask(x, i, what);
            }
        }
        x.undo();
        x.redo();
        x.image(0);
        x.back(0);
    }

    private static void ask(BusRanges x, int i, int what) {
        x.about(what);
        x.refused(i);
        x.device(i, what);
        x.bar(i, what % 3, what / 3);
        x.window(i, what);
        x.bus(i);
        x.find(i, what);
        x.walk(i);
        x.owner(what % 2, i);
        x.way(what % 2, i);
        x.peer(i, what % 2, 8 * i, what / 3);
        x.fill(i, what % 2, what / 2);
        x.blame(i);
        x.chance(i * i, 10 * what, what / 3);
        x.wire(i, what);
        x.hops(i, what);
        x.common(i, what);
        x.need(i, what % 2);
        x.align(i, what % 2);
        x.gap(i, what % 2);
        x.room(i, what % 2);
        x.spare(i);
        x.place(i);
        x.greediest(what % 2);
        x.would(what);
        x.units(what % 2, what / 2);
        x.law(what % 2);
    }
}
