import java.lang.reflect.Method;
import java.util.Arrays;
import java.util.List;

/** No call throws for any arguments, and an ACT that is refused does nothing. */
public final class WrongInputTest {
    private static final int[] MANY = {Integer.MIN_VALUE, -1000, -3, -2, -1, 0, 1, 2, 3, 4, 7, 8, 9, 19, 20, 21,
        31, 32, 128, 129, 999, 1024, 1025, 1 << 30, Integer.MAX_VALUE};
    private static final int[] FEW = {Integer.MIN_VALUE, -2, -1, 0, 1, 2, 4, 8, 20, Integer.MAX_VALUE};
    private static final List<String> ACTS = List.of("endpoint", "bridge", "aperture", "unplug", "shift",
            "space", "powerUp", "start", "stop", "rebalance", "undo", "redo", "back");

    private WrongInputTest() {
    }

    public static void main(String[] args) throws Exception {
        Method[] methods = Face.methods(BusRanges.class);
        for (int state = 0; state < 4; state++) {
            for (int call = 0; call < methods.length; call++) {
                go(methods, call, state);
            }
        }
        Due.end();
    }

    private static BusRanges make(int state) {
        BusRanges x = new BusRanges();
        if (state == 0) {
            return x;
        }
        int at = BusRanges.NONE;
        for (int i = 0; i < 5; i++) {
            at = x.bridge(at, 2 * i % 8, i % 4, 32 * (i % 5));
            int device = x.endpoint(i - 1, 7);
            if (device != BusRanges.NONE) {
                x.aperture(device, i % 2, i);
                x.aperture(device, 0, 0);
            }
            at = i;
        }
        if (state > 1) {
            x.powerUp();
        }
        if (state == 3) {
            x.stop(1);
            x.endpoint(BusRanges.NONE, 3);
            x.undo();
            x.image(0);
        }
        return x;
    }

    private static void go(Method[] methods, int call, int state) throws Exception {
        int count = Face.arguments(call);
        int[] values = count > 2 ? FEW : MANY;
        BusRanges x = make(state);
        List<Integer> before = Face.all(methods, x);
        boolean act = ACTS.contains(Face.name(call));
        int all = 1;
        for (int i = 0; i < count; i++) {
            all *= values.length;
        }
        for (int n = 0; n < all; n++) {
            int[] arguments = new int[count];
            int rest = n;
            for (int i = 0; i < count; i++) {
                arguments[i] = values[rest % values.length];
                rest /= values.length;
            }
            String text = "state " + state + ": " + Face.name(call) + Arrays.toString(arguments);
            boolean changed = true;
            try {
                int answer = Face.call(methods[call], x, arguments);
                boolean refused = methods[call].getReturnType() == boolean.class ? answer == 0 : answer < 0;
                changed = act && !refused;
            } catch (Exception e) {
                Due.is(text + " threw " + e.getCause(), 1, 0);
            }
            if (changed) {
                x = make(state);
            } else if (n % 32 == 0 || all < 100) {
                Due.is(text + " changed something", Face.all(methods, x).equals(before), true);
            }
        }
        Due.is(Face.name(call) + " changed something", Face.all(methods, x).equals(before), true);
    }
}
