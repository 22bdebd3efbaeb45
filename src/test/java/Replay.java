import java.lang.reflect.Method;
import java.util.ArrayList;
import java.util.List;

/**
 * A run of calls that is made again on a new object whenever an object is at its 512th call: what
 * later calls answer is free. What is asked beside the run is asked of objects of its own.
 */
final class Replay implements Face.Asked {
    static final int MOST_CALLS = 512;

    private final Method[] methods;
    private final List<int[]> arguments = new ArrayList<>();
    private final List<Integer> calls = new ArrayList<>();
    private BusRanges object;
    private int left;

    Replay() throws Exception {
        methods = Face.methods(BusRanges.class);
    }

    /** One more call of the run, which is not made before something is asked. */
    void add(int call, int... with) {
        calls.add(call);
        arguments.add(with);
        object = null;
    }

    void add(String name, int... with) {
        add(Face.indexOf(name), with);
    }

    int length() {
        return calls.size();
    }

    /** A new object on which the run was made. */
    BusRanges make() throws Exception {
        BusRanges made = new BusRanges();
        for (int i = 0; i < calls.size(); i++) {
            Face.call(methods[calls.get(i)], made, arguments.get(i));
        }
        return made;
    }

    @Override
    public int ask(int call, int... with) throws Exception {
        if (object == null || left == 0) {
            object = make();
            left = MOST_CALLS - calls.size();
        }
        left--;
        return Face.call(methods[call], object, with);
    }
}
