import java.lang.reflect.Method;
import java.lang.reflect.Modifier;
import java.util.ArrayList;
import java.util.List;

/** The document's public face, for tests that go through all calls. */
final class Face {
    /** Names with how many arguments each takes. */
    static final String[] CALLS = {
        "endpoint 2", "bridge 4", "aperture 3", "unplug 1", "shift 3", "space 2", "powerUp 0", "refused 1",
        "start 1", "stop 1", "rebalance 1", "moves 1", "device 2", "bar 3", "window 2", "bus 1", "find 2",
        "walk 1", "owner 2", "way 2", "peer 4", "fill 3", "blame 1", "chance 3", "wire 2", "hops 2",
        "common 2", "need 2", "align 2", "gap 2", "room 2", "spare 1", "place 1", "greediest 1", "would 1",
        "units 2", "law 1", "undo 0", "redo 0", "image 1", "back 1", "about 1"};

    private Face() {
    }

    static String name(int call) {
        return CALLS[call].split(" ")[0];
    }

    static int arguments(int call) {
        return Integer.parseInt(CALLS[call].split(" ")[1]);
    }

    static int indexOf(String name) {
        for (int i = 0; i < CALLS.length; i++) {
            if (name(i).equals(name)) {
                return i;
            }
        }
        throw new IllegalArgumentException(name);
    }

    /** All calls of a class, in the order of CALLS. */
    static Method[] methods(Class<?> type) throws Exception {
        Method[] found = new Method[CALLS.length];
        for (int i = 0; i < found.length; i++) {
            Class<?>[] kinds = new Class<?>[arguments(i)];
            java.util.Arrays.fill(kinds, int.class);
            found[i] = type.getDeclaredMethod(name(i), kinds);
        }
        return found;
    }

    static int call(Method method, Object on, int... arguments) throws Exception {
        Object[] boxed = new Object[arguments.length];
        for (int i = 0; i < boxed.length; i++) {
            boxed[i] = arguments[i];
        }
        Object answer = method.invoke(on, boxed);
        return answer instanceof Boolean ? ((Boolean) answer ? 1 : 0) : (Integer) answer;
    }

    /** All that can be seen of an object (no ACT is done, and NEED of nothing). */
    static List<Integer> all(Method[] methods, Object on) throws Exception {
        List<Integer> seen = new ArrayList<>();
        for (int what = 0; what < 10; what++) {
            seen.add(call(methods[indexOf("about")], on, what));
        }
        for (int i = 0; i < 20; i++) {
            seen.add(call(methods[indexOf("walk")], on, i));
            seen.add(call(methods[indexOf("refused")], on, i));
            for (int what = 0; what < 7; what++) {
                seen.add(call(methods[indexOf("device")], on, i, what));
                seen.add(call(methods[indexOf("window")], on, i, what));
            }
            for (int a = 0; a < 3; a++) {
                for (int what = 0; what < 3; what++) {
                    seen.add(call(methods[indexOf("bar")], on, i, a, what));
                }
            }
        }
        return seen;
    }

    static boolean isPublic(int modifiers) {
        return Modifier.isPublic(modifiers);
    }
}
