import java.lang.reflect.Method;
import java.util.ArrayList;
import java.util.Arrays;
import java.util.List;

/** The document's public face, for tests that go through all calls. */
final class Face {
    /** Names with how many arguments each takes. */
    static final String[] CALLS = {
        "endpoint 2", "bridge 4", "aperture 3", "unplug 1", "shift 3", "space 2", "powerUp 0", "refused 1",
        "start 1", "stop 1", "rebalance 1", "moves 1", "device 2", "bar 3", "window 2", "bus 1", "find 2",
        "walk 1", "owner 2", "way 2", "peer 4", "fill 3", "blame 1", "chance 3", "wire 2", "hops 2",
        "common 2", "need 2", "align 2", "gap 2", "room 2", "spare 1", "place 1", "greediest 1", "would 1",
        "units 2", "law 1", "undo 0", "redo 0", "image 1", "back 1", "about 1"};

    private static final List<String> CHANGING = List.of("endpoint", "bridge", "aperture", "unplug", "shift",
            "space", "powerUp", "start", "stop", "rebalance", "undo", "redo", "image", "back");

    private Face() {
    }

    /** Something that answers the calls of the face. */
    interface Asked {
        int ask(int call, int... arguments) throws Exception;
    }

    static String name(int call) {
        return CALLS[call].split(" ")[0];
    }

    static int arguments(int call) {
        return Integer.parseInt(CALLS[call].split(" ")[1]);
    }

    static int indexOf(String name) {
        for (int i = 0; i < CALLS.length; i++) {
            if (name(i).equals(name)) {
                return i;
            }
        }
        throw new IllegalArgumentException(name);
    }

    /** Whether a call may do something (what is kept in a BOX is something, too). */
    static boolean changes(int call) {
        return CHANGING.contains(name(call));
    }

    /** All calls of a class, in the order of CALLS. */
    static Method[] methods(Class<?> type) throws Exception {
        Method[] found = new Method[CALLS.length];
        for (int i = 0; i < found.length; i++) {
            Class<?>[] kinds = new Class<?>[arguments(i)];
            Arrays.fill(kinds, int.class);
            found[i] = type.getDeclaredMethod(name(i), kinds);
        }
        return found;
    }

    static int call(Method method, Object on, int... arguments) throws Exception {
        Object[] boxed = new Object[arguments.length];
        for (int i = 0; i < boxed.length; i++) {
            boxed[i] = arguments[i];
        }
        Object answer = method.invoke(on, boxed);
        return answer instanceof Boolean ? ((Boolean) answer ? 1 : 0) : (Integer) answer;
    }

    private static int ask(Asked on, String name, int... arguments) throws Exception {
        return on.ask(indexOf(name), arguments);
    }

    /** All that is told of what there is (nothing is done). */
    static List<Integer> all(Asked on) throws Exception {
        List<Integer> seen = new ArrayList<>();
        for (int what = 0; what < 10; what++) {
            seen.add(ask(on, "about", what));
        }
        for (int i = 0; i < 20; i++) {
            seen.add(ask(on, "walk", i));
            seen.add(ask(on, "refused", i));
            for (int what = 0; what < 7; what++) {
                seen.add(ask(on, "device", i, what));
                seen.add(ask(on, "window", i, what));
            }
            for (int a = 0; a < 3; a++) {
                for (int what = 0; what < 3; what++) {
                    seen.add(ask(on, "bar", i, a, what));
                }
            }
        }
        return seen;
    }

    /** Much of what can be worked out of what there is (nothing is done). */
    static List<Integer> more(Asked on) throws Exception {
        List<Integer> seen = new ArrayList<>();
        for (int i = -1; i <= 20; i++) {
            for (String name : new String[] {"bus", "spare", "place", "blame", "would", "moves", "greediest", "law"}) {
                seen.add(ask(on, name, i));
            }
            for (int k = -1; k <= 2; k++) {
                for (String name : new String[] {"need", "align", "gap", "room", "wire"}) {
                    seen.add(ask(on, name, i, k));
                }
                seen.add(ask(on, "fill", i, k, Math.floorMod(i + k, 9)));
            }
            for (int j = -1; j <= 20; j++) {
                seen.add(ask(on, "hops", i, j));
                seen.add(ask(on, "common", i, j));
                seen.add(ask(on, "find", i, j));
            }
            for (int address = -1; address < 300; address += 1 + Math.abs(i)) {
                for (int what = 0; what < 3; what++) {
                    seen.add(ask(on, "peer", i, address >> what & 1, address, what));
                }
            }
        }
        for (int address = -2; address < 1030; address++) {
            seen.add(ask(on, "owner", address & 1, address));
            seen.add(ask(on, "way", address & 1, address));
        }
        for (int i = 0; i < 30; i++) {
            seen.add(ask(on, "chance", i * 37 % 1000, i * 17 % 101, i % 3));
            seen.add(ask(on, "units", i % 2, i % 4));
        }
        return seen;
    }
}
