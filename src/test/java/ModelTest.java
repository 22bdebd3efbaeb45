import java.lang.reflect.Method;
import java.util.Arrays;
import java.util.Random;

/** Random runs, the same for BusRanges and for the Model: every answer must be the same. */
public final class ModelTest {
    private static final int[] ODD = {Integer.MIN_VALUE, -1000, -3, -2, -1, 20, 21, 32, 100, 1025, 1 << 20, Integer.MAX_VALUE};

    private final Random random;
    private final Method[] mine;
    private final Method[] models;
    private BusRanges object;
    private Model model;
    private StringBuilder told;
    private boolean small;

    private ModelTest(long seed) throws Exception {
        random = new Random(seed);
        mine = Face.methods(BusRanges.class);
        models = Face.methods(Model.class);
    }

    public static void main(String[] args) throws Exception {
        int runs = args.length > 0 ? Integer.parseInt(args[0]) : 150;
        long seed = args.length > 1 ? Long.parseLong(args[1]) : 1;
        ModelTest test = new ModelTest(seed);
        for (int run = 0; run < runs; run++) {
            if (!test.run(run)) {
                break;
            }
        }
        Due.end();
    }

    private boolean run(int number) throws Exception {
        object = new BusRanges();
        model = new Model();
        told = new StringBuilder("run " + number + ":");
        small = random.nextInt(3) == 0;
        int style = random.nextInt(4);
        for (int i = 0; i < 512; i++) {
            boolean right = random.nextInt(100) < (i < 60 ? 80 : 40) ? change(style) : ask();
            if (!right) {
                return false;
            }
            if (i % 16 == 0 && !Face.all(mine, object).equals(Face.all(models, model))) {
                Due.is(told + " all that there is", 0, 1);
                return false;
            }
        }
        return true;
    }

    private boolean change(int style) throws Exception {
        int dice = random.nextInt(100);
        if (dice < 14) {
            return both("endpoint", bus(), slot());
        }
        if (dice < 22 + 4 * (style & 1)) {
            return both("bridge", bus(), slot(), random.nextInt(4), units());
        }
        if (dice < 50) {
            return both("aperture", device(), kind(), exponent());
        }
        if (dice < 54) {
            return both("unplug", device());
        }
        if (dice < 60) {
            return both("shift", device(), bus(), slot());
        }
        if (dice < 63) {
            return both("space", kind(), random.nextInt(4) == 0 ? random.nextInt(1100) : 8 << random.nextInt(8));
        }
        if (dice < 66 + 4 * (style >> 1)) {
            return both("powerUp");
        }
        if (dice < 82) {
            return both("start", device());
        }
        if (dice < 87) {
            return both("stop", device());
        }
        if (dice < 94) {
            return both("rebalance", device());
        }
        if (dice < 97) {
            return both(random.nextInt(3) == 0 ? "redo" : "undo");
        }
        return both(random.nextInt(2) == 0 ? "image" : "back", random.nextInt(2));
    }

    private boolean ask() throws Exception {
        int call = random.nextInt(Face.CALLS.length);
        String name = Face.name(call);
        int[] arguments = new int[Face.arguments(call)];
        for (int i = 0; i < arguments.length; i++) {
            arguments[i] = argument(name, i);
        }
        return both(name, arguments);
    }

    private int argument(String name, int i) {
        if (random.nextInt(60) == 0) {
            return ODD[random.nextInt(ODD.length)];
        }
        switch (name) {
            case "endpoint":
            case "shift":
                return name.equals("shift") && i == 0 ? device() : i == arguments(name) - 1 ? slot() : bus();
            case "bridge":
                return i == 0 ? bus() : i == 1 ? slot() : i == 2 ? random.nextInt(5) : units();
            case "aperture":
                return i == 0 ? device() : i == 1 ? kind() : exponent();
            case "space":
                return i == 0 ? kind() : random.nextInt(1026);
            case "bar":
                return i == 0 ? device() : random.nextInt(4);
            case "device":
            case "window":
            case "wire":
                return i == 0 ? device() : random.nextInt(7);
            case "owner":
            case "way":
                return i == 0 ? kind() : random.nextInt(small ? 64 : 300);
            case "peer":
                return i == 0 ? device() : i == 1 ? kind() : i == 2 ? random.nextInt(small ? 64 : 300) : random.nextInt(3);
            case "find":
                return i == 0 ? random.nextInt(random.nextInt(2) == 0 ? 6 : 33) : slot();
            case "fill":
                return i == 0 ? bus() : i == 1 ? kind() : random.nextInt(9);
            case "need":
            case "align":
            case "gap":
            case "room":
            case "spare":
                return i == 0 ? bus() : kind();
            case "units":
                return i == 0 ? kind() : random.nextInt(5);
            case "law":
            case "greediest":
                return kind();
            case "chance":
                return i == 0 ? random.nextInt(1000) : i == 1 ? random.nextInt(101) : random.nextInt(3);
            case "about":
            case "would":
                return random.nextInt(11);
            case "image":
            case "back":
                return random.nextInt(3);
            default:
                return device();
        }
    }

    private static int arguments(String name) {
        return Face.arguments(Face.indexOf(name));
    }

    private int device() {
        int dice = random.nextInt(20);
        if (dice == 0) {
            return random.nextInt(22) - 1;
        }
        int count = object.about(0);
        return count == 0 ? 0 : object.walk(random.nextInt(count));
    }

    /** Mostly a BUS that is there. */
    private int bus() {
        for (int i = 0; i < 6; i++) {
            int device = device();
            if (object.device(device, 0) == 1) {
                return random.nextInt(5) == 0 ? BusRanges.NONE : device;
            }
        }
        return random.nextInt(10) == 0 ? device() : BusRanges.NONE;
    }

    private int slot() {
        return random.nextInt(30) == 0 ? random.nextInt(10) - 1 : random.nextInt(8);
    }

    private int kind() {
        return random.nextInt(25) == 0 ? random.nextInt(4) - 1 : random.nextInt(3) / 2;
    }

    private int exponent() {
        return random.nextInt(40) == 0 ? random.nextInt(12) - 1 : random.nextInt(small ? 4 : random.nextInt(2) == 0 ? 6 : 9);
    }

    private int units() {
        return random.nextInt(2) == 0 ? 0 : random.nextInt(random.nextInt(2) == 0 ? 130 : 33);
    }

    private boolean both(String name, int... arguments) throws Exception {
        int call = Face.indexOf(name);
        String text = name + Arrays.toString(arguments);
        told.append(' ').append(text);
        int want = Face.call(models[call], model, arguments);
        int got = Face.call(mine[call], object, arguments);
        if (got == want) {
            Due.is(text, got, want);
            return true;
        }
        Due.is(told.toString(), got, want);
        return false;
    }
}
