import java.lang.reflect.Method;
import java.util.Arrays;

/** No call throws for any arguments, and what is refused or only asks does nothing. */
public final class WrongInputTest extends Trees {
    private static final int[] MANY = {LEAST, -1000, -3, -2, -1, 0, 1, 2, 3, 4, 7, 8, 9, 19, 20, 21,
        31, 32, 128, 129, 999, 1024, 1025, 1 << 30, MOST};
    private static final int[] FEW = {LEAST, -2, -1, 0, 1, 2, 4, 8, 20, MOST};
    private static final int STATES = 4;
    // So many calls on one object leave it enough to be made and asked for all of it twice.
    private static final int MOST_CALLS = 100;

    private final Method[] methods;
    private BusRanges object;
    private String before;
    private int calls;

    private WrongInputTest() throws Exception {
        methods = Face.methods(BusRanges.class);
    }

    public static void main(String[] args) throws Exception {
        WrongInputTest test = new WrongInputTest();
        for (int state = 0; state < STATES; state++) {
            for (int call = 0; call < test.methods.length; call++) {
                test.go(call, state);
            }
        }
        Due.end();
    }

    private static BusRanges make(int state) {
        BusRanges x = new BusRanges();
        if (state == 0) {
            return x;
        }
        int at = NONE;
        for (int i = 0; i < 5; i++) {
            at = x.bridge(at, 2 * i % 8, i % 4, 32 * (i % 5));
            int device = x.endpoint(i - 1, 7);
            if (device != NONE) {
                x.aperture(device, i % 2, i);
                x.aperture(device, 0, 0);
            }
            at = i;
        }
        if (state > 1) {
            x.powerUp();
        }
        if (state == 3) {
            x.stop(1);
            x.endpoint(NONE, 3);
            x.undo();
            x.image(0);
        }
        return x;
    }

    private void renew(int state) {
        object = make(state);
        before = told(object);
        calls = 0;
    }

    /** One call with all rows of arguments. */
    private void go(int call, int state) throws Exception {
        int count = Face.arguments(call);
        int[] values = count > 2 ? FEW : MANY;
        int rows = 1;
        for (int i = 0; i < count; i++) {
            rows *= values.length;
        }
        renew(state);
        for (int n = 0; n < rows; n++) {
            int[] arguments = new int[count];
            int rest = n;
            for (int i = 0; i < count; i++) {
                arguments[i] = values[rest % values.length];
                rest /= values.length;
            }
            boolean done = callOnce(call, "state " + state + ": " + Face.name(call) + Arrays.toString(arguments), arguments);
            if (done) {
                renew(state);
            } else if (calls == MOST_CALLS || n == rows - 1) {
                Due.is(Face.name(call) + ", among others " + Arrays.toString(arguments) + ", changed something",
                        told(object).equals(before), true);
                renew(state);
            }
        }
    }

    /** Whether something was done. */
    private boolean callOnce(int call, String text, int... arguments) {
        calls++;
        try {
            int answer = Face.call(methods[call], object, arguments);
            boolean refused = methods[call].getReturnType() == boolean.class ? answer == 0 : answer < 0;
            Due.is(text, 0, 0);
            return Face.changes(call) && !refused;
        } catch (Exception e) {
            Due.is(text + " threw " + e.getCause(), 1, 0);
            return true;
        }
    }
}
