import java.lang.reflect.Method;
import java.util.Arrays;
import java.util.Random;

/**
 * Random runs, the same for BusRanges and for the Model: every answer must be the same. What is called
 * is chosen by what the Model has, so that no object is asked beyond its 512 calls.
 */
public final class ModelTest {
    private static final int[] ODD = {Integer.MIN_VALUE, -1000, -3, -2, -1, 20, 21, 32, 100, 1025, 1 << 20, Integer.MAX_VALUE};

    private final Random random;
    private final Method[] mine;
    private final Method[] models;
    private BusRanges object;
    private int left;
    private Replay replay;
    private Model model;
    private StringBuilder told;
    private boolean small;

    private ModelTest(long seed) throws Exception {
        random = new Random(seed);
        mine = Face.methods(BusRanges.class);
        models = Face.methods(Model.class);
    }

    public static void main(String[] args) throws Exception {
        int runs = args.length > 0 ? Integer.parseInt(args[0]) : 100;
        long seed = args.length > 1 ? Long.parseLong(args[1]) : 1;
        ModelTest test = new ModelTest(seed);
        boolean right = true;
        for (int run = 0; run < runs && right; run++) {
            right = test.run(run);
        }
        for (int run = 0; run < 10 * runs && right; run++) {
            test.renew("crowd " + run + ":");
            right = test.crowd();
        }
        Due.end();
    }

    private boolean run(int number) throws Exception {
        renew("run " + number + ":");
        small = random.nextInt(3) == 0;
        int style = random.nextInt(4);
        boolean crowded = random.nextInt(3) == 0;
        if (crowded && !crowd()) {
            return false;
        }
        if (!crowded && style > 1 && !both("space", random.nextInt(2), 8 << random.nextInt(5))) {
            return false;
        }
        for (int i = 0; left > 4; i++) {
            boolean right;
            if (crowded && random.nextInt(2) == 0) {
                right = squeeze();
            } else {
                right = random.nextInt(100) < (i < 60 ? 80 : 40) ? change(style) : ask();
            }
            if (!right) {
                return false;
            }
            if (i % 32 == 31 && !same() || i % 128 == 64 && !alsoSame()) {
                return false;
            }
        }
        return same();
    }

    private boolean alsoSame() throws Exception {
        boolean same = Face.more(replay).equals(Face.more(this::askModel));
        if (!same) {
            Due.is(told + " all that can be worked out", 0, 1);
        }
        return same;
    }

    private int askModel(int call, int... arguments) throws Exception {
        return Face.call(models[call], model, arguments);
    }

    private void renew(String name) throws Exception {
        object = new BusRanges();
        left = Replay.MOST_CALLS;
        replay = new Replay();
        model = new Model();
        told = new StringBuilder(name);
    }

    private boolean same() throws Exception {
        boolean same = Face.all(replay).equals(Face.all(this::askModel));
        if (!same) {
            Due.is(told + " all that there is", 0, 1);
        }
        return same;
    }

    /** A BUS of small APERTURES with gaps between them, and one more ENDPOINT, for REBALANCE. */
    private boolean crowd() throws Exception {
        int size = 16 + 8 * random.nextInt(5);
        int at = random.nextInt(2) == 0 ? BusRanges.NONE : 0;
        boolean right = both("space", 0, at == 0 ? 256 : size) && both("space", 1, at == 0 ? 256 : size);
        if (at == 0) {
            right = right && both("bridge", BusRanges.NONE, 0, 2, size) && both("start", 0);
        }
        if (right && random.nextInt(4) == 0) {
            right = both("bridge", at, random.nextInt(8), 0, 16) && both("start", model.about(0) - 1);
        }
        int first = model.about(0);
        int own = random.nextInt(8);
        for (int slot = 0; slot < 8 && right; slot++) {
            if (slot != own) {
                right = both("endpoint", at, slot) && crowdOne();
            }
        }
        int count = model.about(0) - first;
        for (int i = 0; i < 4 * count && right; i++) {
            right = both("start", first + random.nextInt(count));
        }
        for (int i = 0; i < count / 2 && right; i++) {
            right = both("stop", first + random.nextInt(count));
        }
        for (int i = random.nextInt(3); i > 0 && right; i--) {
            right = both("start", first + random.nextInt(count));
        }
        return right && (model.find(at + 1, own) != BusRanges.NONE || squeezeIn(at, own));
    }

    private boolean crowdOne() throws Exception {
        int device = model.about(0) - 1;
        boolean right = true;
        for (int a = random.nextInt(3); a >= 0 && right; a--) {
            right = both("aperture", device, random.nextInt(5) / 4, random.nextInt(5) / 2);
        }
        return right;
    }

    /** An ENDPOINT with about as much as all gaps have. */
    private boolean squeezeIn(int at, int slot) throws Exception {
        boolean right = both("endpoint", at, slot);
        int device = model.about(0) - 1;
        int gap = model.gap(at, 0);
        for (int a = 0; a < 3 && right; a++) {
            int e = Math.max(0, 31 - Integer.numberOfLeadingZeros(Math.max(1, gap)) - random.nextInt(2));
            right = both("aperture", device, 0, Math.min(e, 8));
            gap -= 1 << e;
            if (gap <= 0 || random.nextInt(2) == 0) {
                break;
            }
        }
        right = right && both("moves", device) && both("place", device) && both("start", device);
        if (right && model.device(device, 3) == 1) {
            right = both("stop", device);
        }
        return right && both("rebalance", device) && same();
    }

    private boolean squeeze() throws Exception {
        int device = device();
        switch (random.nextInt(8)) {
            case 0:
                return both("aperture", device, random.nextInt(4) / 3, random.nextInt(5));
            case 1:
                return both("start", device);
            case 2:
                return both("stop", device);
            case 3:
                return both("rebalance", device);
            case 4:
                return model.device(device, 0) != 0 || both("unplug", device)
                        && both("endpoint", bus(), slot()) && both("aperture", device, 0, 2 + random.nextInt(3));
            default:
                return both("moves", device);
        }
    }

    private boolean change(int style) throws Exception {
        int dice = random.nextInt(100);
        if (dice < 14) {
            return both("endpoint", bus(), slot());
        }
        if (dice < 22 + 4 * (style & 1)) {
            return both("bridge", bus(), slot(), random.nextInt(4), units());
        }
        if (dice < 50) {
            return both("aperture", device(), kind(), exponent());
        }
        if (dice < 54) {
            return both("unplug", device());
        }
        if (dice < 60) {
            return both("shift", device(), bus(), slot());
        }
        if (dice < 63) {
            return both("space", kind(), random.nextInt(4) == 0 ? random.nextInt(1100) : 8 << random.nextInt(8));
        }
        if (dice < 66 + 4 * (style >> 1)) {
            return both("powerUp");
        }
        if (dice < 82) {
            return both("start", device());
        }
        if (dice < 87) {
            return both("stop", device());
        }
        if (dice < 94) {
            return both("rebalance", device());
        }
        if (dice < 97) {
            return both(random.nextInt(3) == 0 ? "redo" : "undo");
        }
        return both(random.nextInt(2) == 0 ? "image" : "back", random.nextInt(2));
    }

    private boolean ask() throws Exception {
        int call = random.nextInt(Face.CALLS.length);
        String name = Face.name(call);
        int[] arguments = new int[Face.arguments(call)];
        for (int i = 0; i < arguments.length; i++) {
            arguments[i] = argument(name, i);
        }
        return both(name, arguments);
    }

    private int argument(String name, int i) {
        if (random.nextInt(60) == 0) {
            return ODD[random.nextInt(ODD.length)];
        }
        switch (name) {
            case "endpoint":
            case "shift":
                return name.equals("shift") && i == 0 ? device() : i == arguments(name) - 1 ? slot() : bus();
            case "bridge":
                return i == 0 ? bus() : i == 1 ? slot() : i == 2 ? random.nextInt(5) : units();
            case "aperture":
                return i == 0 ? device() : i == 1 ? kind() : exponent();
            case "space":
                return i == 0 ? kind() : random.nextInt(1026);
            case "bar":
                return i == 0 ? device() : random.nextInt(4);
            case "device":
            case "window":
            case "wire":
                return i == 0 ? device() : random.nextInt(7);
            case "owner":
            case "way":
                return i == 0 ? kind() : random.nextInt(small ? 64 : 300);
            case "peer":
                return i == 0 ? device() : i == 1 ? kind() : i == 2 ? random.nextInt(small ? 64 : 300) : random.nextInt(3);
            case "find":
                return i == 0 ? random.nextInt(random.nextInt(2) == 0 ? 6 : 33) : slot();
            case "fill":
                return i == 0 ? bus() : i == 1 ? kind() : random.nextInt(9);
            case "need":
            case "align":
            case "gap":
            case "room":
            case "spare":
                return i == 0 ? bus() : kind();
            case "units":
                return i == 0 ? kind() : random.nextInt(5);
            case "law":
            case "greediest":
                return kind();
            case "chance":
                return i == 0 ? random.nextInt(1000) : i == 1 ? random.nextInt(101) : random.nextInt(3);
            case "about":
            case "would":
                return random.nextInt(11);
            case "image":
            case "back":
                return random.nextInt(3);
            default:
                return device();
        }
    }

    private static int arguments(String name) {
        return Face.arguments(Face.indexOf(name));
    }

    private int device() {
        int dice = random.nextInt(20);
        if (dice == 0) {
            return random.nextInt(22) - 1;
        }
        int count = model.about(0);
        return count == 0 ? 0 : model.walk(random.nextInt(count));
    }

    /** Mostly a BUS that is there. */
    private int bus() {
        for (int i = 0; i < 6; i++) {
            int device = device();
            if (model.device(device, 0) == 1) {
                return random.nextInt(5) == 0 ? BusRanges.NONE : device;
            }
        }
        return random.nextInt(10) == 0 ? device() : BusRanges.NONE;
    }

    private int slot() {
        return random.nextInt(30) == 0 ? random.nextInt(10) - 1 : random.nextInt(8);
    }

    private int kind() {
        return random.nextInt(25) == 0 ? random.nextInt(4) - 1 : random.nextInt(3) / 2;
    }

    private int exponent() {
        return random.nextInt(40) == 0 ? random.nextInt(12) - 1 : random.nextInt(small ? 4 : random.nextInt(2) == 0 ? 6 : 9);
    }

    private int units() {
        return random.nextInt(2) == 0 ? 0 : random.nextInt(random.nextInt(2) == 0 ? 130 : 33);
    }

    private boolean both(String name, int... arguments) throws Exception {
        int call = Face.indexOf(name);
        String text = name + Arrays.toString(arguments);
        told.append(' ').append(text);
        int want = Face.call(models[call], model, arguments);
        int got = Face.call(mine[call], object, arguments);
        left--;
        if (Face.changes(call)) {
            replay.add(call, arguments);
        }
        if (got == want) {
            Due.is(text, got, want);
            return true;
        }
        Due.is(told.toString(), got, want);
        return false;
    }
}
