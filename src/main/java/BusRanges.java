/**
 * A tree of buses, bridges and endpoints that are numbered and given space at power-up.
 * Words in capitals are the document's. Every ACT is tried on a copy, which becomes the
 * present tree where the ACT is not refused, so that a refused one can leave no trace.
 */
public final class BusRanges {
    /** There is none. */
    public static final int NONE = -1;

    // What else is answered where NONE has another meaning, or comes first.
    private static final int NO_SUCH = -2;
    private static final int BUS_OFF = -2;
    private static final int NO_NUMBER = -3;
    private static final int NO_ROOM = -4;

    // The document's bounds.
    private static final int DEVICES = 20;
    private static final int SLOTS = 8;
    private static final int APERTURES = 3;
    private static final int KINDS = 2;
    private static final int DEEPEST = 4;
    private static final int LAST_NUMBER = 31;
    private static final int GREATEST_E = 8;
    private static final int MOST_NUMBERS = 3;
    private static final int MOST_UNITS = 128;
    private static final int MOST_SPACE = 1024;
    private static final int FIRST_SPACE = 256;
    private static final int WINDOW_STEP = 16;
    private static final int MOST_MOVED = 3;
    private static final int ACTS = 20;
    private static final int BOXES = 2;
    private static final int PINS = 4;
    private static final int SEEDS = 1000;
    private static final int PERCENT = 100;

    // What is kept of a DEVICE: the place of each in its row of cells.
    private static final int TYPE = 0;
    private static final int AT = 1;
    private static final int SLOT = 2;
    private static final int ON = 3;
    private static final int NUMBERS = 4;
    private static final int UNITS = 5;
    private static final int HAS = 6;
    private static final int FIRST = 7;
    private static final int LAST = 8;
    private static final int KIND = 9;
    private static final int SIZE = KIND + APERTURES;
    private static final int BASE = SIZE + APERTURES;
    private static final int BEGIN = BASE + APERTURES;
    private static final int LENGTH = BEGIN + KINDS;
    private static final int ALIGN = LENGTH + KINDS;
    private static final int CELLS = ALIGN + KINDS;

    private static final int VACANT = 0;
    private static final int ENDPOINT = 1;
    private static final int BRIDGE = 2;

    private final History history = new History();
    private final Tree[] boxes = {new Tree(), new Tree()};
    private final boolean[] filled = new boolean[BOXES];
    private final Tree trial = new Tree();
    private final Shelf shelf = new Shelf();
    private final Power power = new Power();
    private final Placer placer = new Placer();
    private final Route route = new Route();

    public BusRanges() {
    }

    // ---- ACTS ----

    public int endpoint(int at, int slot) {
        return plugIn(ENDPOINT, at, slot, 0, 0);
    }

    public int bridge(int at, int slot, int numbers, int units) {
        if (numbers < 0 || numbers > MOST_NUMBERS || units < 0 || units > MOST_UNITS) {
            return NONE;
        }
        return plugIn(BRIDGE, at, slot, numbers, units);
    }

    private int plugIn(int type, int at, int slot, int numbers, int units) {
        Tree tree = copyOfNow();
        int device = tree.lowestVacant();
        if (device == NONE || !tree.takes(at, slot, 0)) {
            return NONE;
        }
        tree.plug(device, type, at, slot);
        tree.set(device, NUMBERS, numbers);
        tree.set(device, UNITS, units);
        history.keep(tree);
        return device;
    }

    public int aperture(int device, int kind, int e) {
        Tree tree = copyOfNow();
        if (!tree.isEndpoint(device) || tree.isOn(device) || !isKind(kind) || !isExponent(e)) {
            return NONE;
        }
        int number = tree.get(device, HAS);
        if (number < 0 || number >= APERTURES) {
            return NONE;
        }
        tree.set(device, KIND + number, kind);
        tree.set(device, SIZE + number, 1 << e);
        tree.set(device, BASE + number, NONE);
        tree.set(device, HAS, number + 1);
        history.keep(tree);
        return number;
    }

    public int unplug(int device) {
        Tree tree = copyOfNow();
        if (!tree.isThere(device)) {
            return NONE;
        }
        int gone = tree.remove(device);
        history.keep(tree);
        return gone;
    }

    public boolean shift(int device, int at, int slot) {
        Tree tree = copyOfNow();
        if (!tree.isThere(device) || tree.isOn(device) || at == device) {
            return false;
        }
        if (tree.isBehind(at, device) || !tree.takes(at, slot, tree.height(device))) {
            return false;
        }
        tree.plug(device, tree.get(device, TYPE), at, slot);
        history.keep(tree);
        return true;
    }

    public boolean space(int kind, int size) {
        Tree tree = copyOfNow();
        if (!isKind(kind) || size < 0 || size > MOST_SPACE || tree.countOn() > 0) {
            return false;
        }
        tree.spaces[kind] = size;
        history.keep(tree);
        return true;
    }

    public int powerUp() {
        Tree tree = copyOfNow();
        power.run(tree);
        history.keep(tree);
        return tree.countOn();
    }

    public int start(int device) {
        Tree tree = copyOfNow();
        int answer = placer.begin(tree, device);
        if (answer >= 0) {
            history.keep(tree);
        }
        return answer;
    }

    public int stop(int device) {
        Tree tree = copyOfNow();
        if (!tree.isOn(device)) {
            return NONE;
        }
        int gone = tree.turnOff(device);
        history.keep(tree);
        return gone;
    }

    public int rebalance(int device) {
        Tree tree = copyOfNow();
        int answer = placer.makeRoom(tree, device);
        if (answer >= 0) {
            history.keep(tree);
        }
        return answer;
    }

    public int moves(int device) {
        return placer.makeRoom(copyOfNow(), device);
    }

    // ---- What is there ----

    public int refused(int i) {
        Tree now = history.now();
        return i >= 0 && i < now.refusals && i < now.refused.length ? now.refused[i] : NONE;
    }

    public int device(int device, int what) {
        Tree now = history.now();
        if (!now.isThere(device)) {
            return NO_SUCH;
        }
        switch (what) {
            case 0:
                return now.isBridge(device) ? 1 : 0;
            case 1:
                return now.get(device, AT);
            case 2:
                return now.get(device, SLOT);
            case 3:
                return now.get(device, ON);
            case 4:
                return now.get(device, HAS);
            case 5:
                return now.get(device, NUMBERS);
            case 6:
                return now.get(device, UNITS);
            default:
                return NO_SUCH;
        }
    }

    public int bar(int device, int aperture, int what) {
        Tree now = history.now();
        if (!now.isEndpoint(device) || aperture < 0 || aperture >= now.get(device, HAS)) {
            return NO_SUCH;
        }
        switch (what) {
            case 0:
                return now.get(device, KIND + aperture);
            case 1:
                return now.get(device, SIZE + aperture);
            case 2:
                return now.get(device, BASE + aperture);
            default:
                return NO_SUCH;
        }
    }

    public int window(int bridge, int what) {
        Tree now = history.now();
        if (!now.isBridge(bridge) || !now.isOn(bridge)) {
            return NO_SUCH;
        }
        switch (what) {
            case 0:
                return now.get(bridge, FIRST);
            case 1:
                return now.get(bridge, LAST);
            case 2:
                return now.get(bridge, BEGIN);
            case 3:
                return now.get(bridge, LENGTH);
            case 4:
                return now.get(bridge, BEGIN + 1);
            case 5:
                return now.get(bridge, LENGTH + 1);
            default:
                return NO_SUCH;
        }
    }

    public int bus(int device) {
        Tree now = history.now();
        int at = now.get(device, AT);
        return now.isThere(device) && now.isBusOn(at) ? now.firstNumber(at) : NONE;
    }

    public int find(int bus, int slot) {
        Tree now = history.now();
        if (bus == 0) {
            return now.plugged(NONE, slot);
        }
        for (int i = 0; i < now.walked; i++) {
            int device = now.walkAt(i);
            if (now.isBridge(device) && now.isOn(device) && now.get(device, FIRST) == bus) {
                return now.plugged(device, slot);
            }
        }
        return NONE;
    }

    public int walk(int i) {
        return history.now().walkAt(i);
    }

    // ---- Where an address goes ----

    public int owner(int kind, int address) {
        if (!isKind(kind)) {
            return NONE;
        }
        route.descend(history.now(), NONE, kind, address);
        return route.endpoint;
    }

    public int way(int kind, int address) {
        if (!isKind(kind)) {
            return NONE;
        }
        boolean met = route.descend(history.now(), NONE, kind, address);
        return met ? route.bridges : NONE;
    }

    public int peer(int device, int kind, int address, int what) {
        Tree now = history.now();
        int at = now.get(device, AT);
        if (!now.isThere(device) || !now.isBusOn(at) || !isKind(kind)) {
            return NO_SUCH;
        }
        route.climb(now, at, kind, address);
        switch (what) {
            case 0:
                return route.endpoint;
            case 1:
                return route.bridges;
            case 2:
                return now.firstNumber(route.top);
            default:
                return NO_SUCH;
        }
    }

    // ---- What POWER-UP would do ----

    public int blame(int device) {
        Tree now = history.now();
        if (!now.isEndpoint(device)) {
            return NO_SUCH;
        }
        // The first round unplugs NONE: if that will do, NONE is the answer, too.
        for (int i = -1; i < now.walked; i++) {
            int other = now.walkAt(i);
            if (i >= 0 && (other == device || !now.isEndpoint(other))) {
                continue;
            }
            Tree tree = copyOfNow();
            tree.remove(other);
            power.run(tree);
            if (tree.isOn(device)) {
                return other;
            }
        }
        return NONE;
    }

    public int chance(int seed, int below, int what) {
        if (seed < 0 || seed >= SEEDS || below < 0 || below > PERCENT) {
            return NONE;
        }
        Tree now = history.now();
        Tree tree = copyOfNow();
        int x = seed;
        int gone = 0;
        for (int i = 0; i < now.walked; i++) {
            int device = now.walkAt(i);
            if (now.isEndpoint(device)) {
                x = (137 * x + 71) % SEEDS;
                if (x % PERCENT < below) {
                    gone += tree.remove(device);
                }
            }
        }
        power.run(tree);
        switch (what) {
            case 0:
                return tree.countOn();
            case 1:
                return gone;
            case 2:
                return tree.refusals;
            default:
                return NONE;
        }
    }

    public int would(int what) {
        Tree now = history.now();
        Tree then = copyOfNow();
        power.run(then);
        switch (what) {
            case 0:
                return then.countOn();
            case 1:
                return rebased(now, then);
            case 2:
                return turnedOff(now, then);
            case 3:
                return then.refusals;
            default:
                return NONE;
        }
    }

    private static int rebased(Tree now, Tree then) {
        int count = 0;
        for (int device = 0; device < DEVICES; device++) {
            if (now.isEndpoint(device) && now.isOn(device) && then.isOn(device)) {
                for (int a = 0; a < now.get(device, HAS); a++) {
                    if (now.get(device, BASE + a) != then.get(device, BASE + a)) {
                        count++;
                    }
                }
            }
        }
        return count;
    }

    private static int turnedOff(Tree now, Tree then) {
        int count = 0;
        for (int device = 0; device < DEVICES; device++) {
            if (now.isOn(device) && !then.isOn(device)) {
                count++;
            }
        }
        return count;
    }

    public int need(int bridge, int kind) {
        if (!hasMeasure(bridge, kind)) {
            return NO_SUCH;
        }
        return power.needOf(trial, bridge, kind);
    }

    public int align(int bridge, int kind) {
        if (!hasMeasure(bridge, kind)) {
            return NO_SUCH;
        }
        return power.alignOf(trial, bridge, kind);
    }

    /** Whether there is such a BUS and KIND; the trial tree is then measured, all DEVICES ON. */
    private boolean hasMeasure(int bridge, int kind) {
        Tree tree = copyOfNow();
        if (!tree.hasBus(bridge) || !isKind(kind)) {
            return false;
        }
        for (int i = 0; i < tree.walked; i++) {
            tree.set(tree.walkAt(i), ON, 1);
        }
        power.measure(tree, kind);
        return true;
    }

    // ---- Wires and ways between DEVICES ----

    public int wire(int device, int pin) {
        Tree now = history.now();
        if (!now.isThere(device) || pin < 0 || pin >= PINS) {
            return NONE;
        }
        int wire = pin + now.get(device, SLOT);
        int at = now.get(device, AT);
        for (int level = 0; level < DEEPEST && at != NONE; level++) {
            wire += now.get(at, SLOT);
            at = now.get(at, AT);
        }
        return wire % PINS;
    }

    public int hops(int device, int other) {
        Tree now = history.now();
        if (!now.isThere(device) || !now.isThere(other)) {
            return NONE;
        }
        int count = 0;
        for (int bridge = 0; bridge < DEVICES; bridge++) {
            boolean between = now.isBehind(device, bridge) != now.isBehind(other, bridge);
            if (between && bridge != device && bridge != other) {
                count++;
            }
        }
        return count;
    }

    public int common(int device, int other) {
        Tree now = history.now();
        if (!now.isThere(device) || !now.isThere(other)) {
            return NO_SUCH;
        }
        int at = now.get(device, AT);
        for (int level = 0; level < DEEPEST && at != NONE; level++) {
            if (now.isBehind(other, at)) {
                return at;
            }
            at = now.get(at, AT);
        }
        return NONE;
    }

    // ---- Gaps, spare numbers, waste ----

    public int gap(int bridge, int kind) {
        if (!hasShelf(bridge, kind)) {
            return NO_SUCH;
        }
        return history.now().length(bridge, kind) - shelf.total();
    }

    public int room(int bridge, int kind) {
        if (!hasShelf(bridge, kind)) {
            return NO_SUCH;
        }
        Tree now = history.now();
        int begin = now.begin(bridge, kind);
        int end = begin + now.length(bridge, kind);
        for (int e = GREATEST_E; e >= 0; e--) {
            if (shelf.lowest(1 << e, 1 << e, begin, end) != NONE) {
                return e;
            }
        }
        return NONE;
    }

    public int fill(int bridge, int kind, int e) {
        if (!hasShelf(bridge, kind) || !isExponent(e)) {
            return NO_SUCH;
        }
        Tree now = history.now();
        int size = 1 << e;
        int begin = now.begin(bridge, kind);
        int end = begin + now.length(bridge, kind);
        for (int count = 0; count < MOST_SPACE; count++) {
            int base = shelf.lowest(size, size, begin, end);
            if (base == NONE) {
                return count;
            }
            begin = base + size;
        }
        return MOST_SPACE;
    }

    /** Whether there is such a KIND, and such a BUS that is ON; the shelf holds its THINGS then. */
    private boolean hasShelf(int bridge, int kind) {
        Tree now = history.now();
        if (!now.isBusOn(bridge) || !isKind(kind)) {
            return false;
        }
        shelf.gather(now, bridge, kind);
        return true;
    }

    public int spare(int bridge) {
        Tree now = history.now();
        if (!now.isBusOn(bridge)) {
            return NO_SUCH;
        }
        int count = 0;
        for (int number = 0; number <= LAST_NUMBER; number++) {
            if (now.isFree(bridge, number)) {
                count++;
            }
        }
        return count;
    }

    public int place(int device) {
        Tree tree = copyOfNow();
        if (!tree.isEndpoint(device) || tree.isOn(device)) {
            return NO_SUCH;
        }
        if (fits(tree, device, NONE)) {
            return NONE;
        }
        for (int i = 0; i < tree.walked; i++) {
            int at = tree.walkAt(i);
            if (tree.isBridge(at) && tree.isOn(at) && fits(tree, device, at)) {
                return at;
            }
        }
        return NO_SUCH;
    }

    /** Whether an OFF ENDPOINT could be plugged in and started on a BUS that is ON. */
    private boolean fits(Tree tree, int device, int at) {
        boolean plugs = tree.get(device, AT) == at;
        for (int slot = 0; slot < SLOTS && !plugs; slot++) {
            plugs = tree.takes(at, slot, 0);
        }
        return plugs && placer.seat(tree, device, at, 0) != NONE;
    }

    public int greediest(int kind) {
        if (!isKind(kind)) {
            return NONE;
        }
        return history.now().mostUnits(kind, false);
    }

    public int units(int kind, int what) {
        if (!isKind(kind)) {
            return NONE;
        }
        Tree now = history.now();
        switch (what) {
            case 0:
                return apertureUnits(now, kind, true);
            case 1:
                shelf.gather(now, NONE, kind);
                return shelf.total();
            case 2:
                return windowUnits(now, kind);
            case 3:
                return apertureUnits(now, kind, false);
            default:
                return NONE;
        }
    }

    private static int apertureUnits(Tree now, int kind, boolean onOnly) {
        int sum = 0;
        for (int device = 0; device < DEVICES; device++) {
            if (now.isEndpoint(device) && (now.isOn(device) || !onOnly)) {
                sum += now.unitsOf(device, kind);
            }
        }
        return sum;
    }

    private static int windowUnits(Tree now, int kind) {
        int sum = 0;
        for (int device = 0; device < DEVICES; device++) {
            if (now.isBridge(device) && now.isOn(device)) {
                sum += now.get(device, LENGTH + kind);
            }
        }
        return sum;
    }

    public int law(int kind) {
        if (!isKind(kind)) {
            return NONE;
        }
        Tree now = history.now();
        int count = offences(now, NONE, kind);
        for (int device = 0; device < DEVICES; device++) {
            if (now.isBridge(device) && now.isOn(device)) {
                count += offences(now, device, kind);
            }
        }
        return count;
    }

    private int offences(Tree now, int at, int kind) {
        shelf.gather(now, at, kind);
        int begin = now.begin(at, kind);
        return shelf.offences(begin, begin + now.length(at, kind));
    }

    // ---- ACTS taken back and done again, images ----

    public boolean undo() {
        return history.stepBack();
    }

    public boolean redo() {
        return history.stepForth();
    }

    public int image(int box) {
        if (box < 0 || box >= BOXES) {
            return NONE;
        }
        Tree now = history.now();
        boxes[box].copy(now);
        filled[box] = true;
        return now.walked;
    }

    public int back(int box) {
        if (box < 0 || box >= BOXES || !filled[box]) {
            return NONE;
        }
        history.restart(boxes[box]);
        return history.now().walked;
    }

    public int about(int what) {
        Tree now = history.now();
        switch (what) {
            case 0:
                return now.walked;
            case 1:
                return now.countBridges();
            case 2:
                return now.countOn();
            case 3:
                return now.countAperturesOn();
            case 4:
                return now.greatestFirst();
            case 5:
                return now.refusals;
            case 6:
                return history.taken;
            case 7:
                return history.untaken;
            case 8:
                return now.spaceOf(0);
            case 9:
                return now.spaceOf(1);
            default:
                return NONE;
        }
    }

    private Tree copyOfNow() {
        trial.copy(history.now());
        return trial;
    }

    private static boolean isKind(int kind) {
        return kind >= 0 && kind < KINDS;
    }

    private static boolean isExponent(int e) {
        return e >= 0 && e <= GREATEST_E;
    }

    /** The least multiple of a step, which is a power of two, that is not below a value. */
    private static int roundUp(int value, int step) {
        return (value + step - 1) & -step;
    }

    /** All that there is at one time. A BUS is told by its BRIDGE, the HOST's by NONE. */
    private static final class Tree {
        final int[] cells = new int[DEVICES * CELLS];
        final int[] spaces = {FIRST_SPACE, FIRST_SPACE};
        final int[] walk = new int[DEVICES];
        final int[] refused = new int[DEVICES];
        int walked;
        int refusals;

        void copy(Tree other) {
            System.arraycopy(other.cells, 0, cells, 0, DEVICES * CELLS);
            System.arraycopy(other.spaces, 0, spaces, 0, KINDS);
            System.arraycopy(other.walk, 0, walk, 0, DEVICES);
            System.arraycopy(other.refused, 0, refused, 0, DEVICES);
            walked = other.walked;
            refusals = other.refusals;
        }

        int get(int device, int cell) {
            if (device < 0 || device >= DEVICES || cell < 0 || cell >= CELLS) {
                return NONE;
            }
            return cells[device * CELLS + cell];
        }

        void set(int device, int cell, int value) {
            if (device >= 0 && device < DEVICES && cell >= 0 && cell < CELLS) {
                cells[device * CELLS + cell] = value;
            }
        }

        boolean isThere(int device) {
            return get(device, TYPE) > VACANT;
        }

        boolean isEndpoint(int device) {
            return get(device, TYPE) == ENDPOINT;
        }

        boolean isBridge(int device) {
            return get(device, TYPE) == BRIDGE;
        }

        boolean isOn(int device) {
            return get(device, ON) == 1;
        }

        boolean hasBus(int at) {
            return at == NONE || isBridge(at);
        }

        boolean isBusOn(int at) {
            return at == NONE || isBridge(at) && isOn(at);
        }

        int spaceOf(int kind) {
            return kind >= 0 && kind < KINDS ? spaces[kind] : 0;
        }

        int walkAt(int i) {
            return i >= 0 && i < walked && i < DEVICES ? walk[i] : NONE;
        }

        /** Where the WINDOW of a BUS that is ON (the SPACE) begins; 0 without one. */
        int begin(int at, int kind) {
            return at == NONE || get(at, LENGTH + kind) == 0 ? 0 : get(at, BEGIN + kind);
        }

        int length(int at, int kind) {
            return at == NONE ? spaceOf(kind) : get(at, LENGTH + kind);
        }

        int firstNumber(int at) {
            return at == NONE ? 0 : get(at, FIRST);
        }

        int lastNumber(int at) {
            return at == NONE ? LAST_NUMBER : get(at, LAST);
        }

        /** Whether a number of the RANGE of a BUS is not its first, and no BRIDGE's there. */
        boolean isFree(int at, int number) {
            if (number <= firstNumber(at) || number > lastNumber(at)) {
                return false;
            }
            for (int i = 0; i < walked; i++) {
                int device = walkAt(i);
                if (get(device, AT) == at && isBridge(device) && isOn(device)
                        && number >= get(device, FIRST) && number <= get(device, LAST)) {
                    return false;
                }
            }
            return true;
        }

        int plugged(int at, int slot) {
            for (int device = 0; device < DEVICES; device++) {
                if (isThere(device) && get(device, AT) == at && get(device, SLOT) == slot) {
                    return device;
                }
            }
            return NONE;
        }

        int lowestVacant() {
            for (int device = 0; device < DEVICES; device++) {
                if (!isThere(device)) {
                    return device;
                }
            }
            return NONE;
        }

        /** How many BRIDGES a DEVICE on a BUS is behind. */
        int depth(int at) {
            int depth = 0;
            for (int bridge = at; bridge != NONE && depth <= DEEPEST; bridge = get(bridge, AT)) {
                depth++;
            }
            return depth;
        }

        boolean isBehind(int device, int bridge) {
            int at = get(device, AT);
            for (int level = 0; level < DEEPEST && at != NONE; level++) {
                if (at == bridge) {
                    return true;
                }
                at = get(at, AT);
            }
            return false;
        }

        /** How many more BRIDGES the deepest DEVICE behind this one is behind. */
        int height(int device) {
            int height = 0;
            for (int other = 0; other < DEVICES; other++) {
                if (isThere(other) && isBehind(other, device)) {
                    height = Math.max(height, depth(get(other, AT)) - depth(get(device, AT)));
                }
            }
            return height;
        }

        /** Whether a SLOT is there and free, for a DEVICE with so many levels behind it. */
        boolean takes(int at, int slot, int height) {
            return hasBus(at) && slot >= 0 && slot < SLOTS && plugged(at, slot) == NONE
                    && depth(at) + height <= DEEPEST;
        }

        void plug(int device, int type, int at, int slot) {
            set(device, TYPE, type);
            set(device, AT, at);
            set(device, SLOT, slot);
            clearGiven(device);
            walked = 0;
            walkBus(this, NONE, 0);
        }

        private static void walkBus(Tree tree, int at, int depth) {
            if (depth > DEEPEST) {
                return;
            }
            for (int slot = 0; slot < SLOTS; slot++) {
                int device = tree.plugged(at, slot);
                if (device != NONE && tree.walked >= 0 && tree.walked < DEVICES) {
                    tree.walk[tree.walked] = device;
                    tree.walked++;
                    if (tree.isBridge(device)) {
                        walkBus(tree, device, depth + 1);
                    }
                }
            }
        }

        int remove(int device) {
            int before = walked;
            // From the last on, so that the way up from each DEVICE still stands.
            for (int i = before - 1; i >= 0; i--) {
                int other = walkAt(i);
                if (other == device || isBehind(other, device)) {
                    for (int cell = 0; cell < CELLS; cell++) {
                        set(other, cell, 0);
                    }
                }
            }
            int left = 0;
            for (int i = 0; i < before && i < DEVICES; i++) {
                if (isThere(walk[i])) {
                    walk[left] = walk[i];
                    left++;
                }
            }
            walked = left;
            return before - left;
        }

        int turnOff(int device) {
            int count = 0;
            for (int other = 0; other < DEVICES; other++) {
                if (isOn(other) && (other == device || isBehind(other, device))) {
                    set(other, ON, 0);
                    clearGiven(other);
                    count++;
                }
            }
            return count;
        }

        void turnAllOff() {
            for (int device = 0; device < DEVICES; device++) {
                set(device, ON, 0);
                clearGiven(device);
            }
        }

        private void clearGiven(int device) {
            set(device, FIRST, NONE);
            set(device, LAST, NONE);
            for (int a = 0; a < APERTURES; a++) {
                set(device, BASE + a, NONE);
            }
            for (int kind = 0; kind < KINDS; kind++) {
                set(device, BEGIN + kind, NONE);
                set(device, LENGTH + kind, 0);
            }
        }

        int unitsOf(int device, int kind) {
            int sum = 0;
            for (int a = 0; a < get(device, HAS); a++) {
                if (get(device, KIND + a) == kind) {
                    sum += get(device, SIZE + a);
                }
            }
            return sum;
        }

        /** The ENDPOINT of most units of a KIND, the first by the WALK; NONE if none has some. */
        int mostUnits(int kind, boolean onOnly) {
            int best = NONE;
            int most = 0;
            for (int i = 0; i < walked; i++) {
                int device = walkAt(i);
                if (isEndpoint(device) && (isOn(device) || !onOnly)) {
                    int units = unitsOf(device, kind);
                    if (units > most) {
                        most = units;
                        best = device;
                    }
                }
            }
            return best;
        }

        /** The ON BRIDGE that leaves most UNITS, the first by the WALK. */
        int mostLeft() {
            int best = NONE;
            int most = -1;
            for (int i = 0; i < walked; i++) {
                int device = walkAt(i);
                if (isBridge(device) && isOn(device) && get(device, UNITS) > most) {
                    most = get(device, UNITS);
                    best = device;
                }
            }
            return best;
        }

        void refuse(int device) {
            turnOff(device);
            if (refusals >= 0 && refusals < DEVICES) {
                refused[refusals] = device;
                refusals++;
            }
        }

        int countOn() {
            int count = 0;
            for (int device = 0; device < DEVICES; device++) {
                if (isOn(device)) {
                    count++;
                }
            }
            return count;
        }

        int countBridges() {
            int count = 0;
            for (int device = 0; device < DEVICES; device++) {
                if (isBridge(device)) {
                    count++;
                }
            }
            return count;
        }

        int countAperturesOn() {
            int count = 0;
            for (int device = 0; device < DEVICES; device++) {
                if (isEndpoint(device) && isOn(device)) {
                    count += get(device, HAS);
                }
            }
            return count;
        }

        int greatestFirst() {
            int greatest = 0;
            for (int device = 0; device < DEVICES; device++) {
                if (isBridge(device) && isOn(device)) {
                    greatest = Math.max(greatest, get(device, FIRST));
                }
            }
            return greatest;
        }
    }

    /** THINGS of one KIND on one BUS. A WINDOW is told by NONE as its aperture. */
    private static final class Shelf {
        // The THINGS of a full BUS, and those of one more ENDPOINT.
        static final int CAPACITY = (SLOTS + 1) * APERTURES;

        final int[] owner = new int[CAPACITY];
        final int[] aperture = new int[CAPACITY];
        final int[] align = new int[CAPACITY];
        final int[] size = new int[CAPACITY];
        final int[] base = new int[CAPACITY];
        int count;

        void clear() {
            count = 0;
        }

        /** Takes all THINGS that are ON, by SLOT, then by number. */
        void gather(Tree tree, int at, int kind) {
            clear();
            for (int i = 0; i < tree.walked; i++) {
                int device = tree.walkAt(i);
                if (tree.get(device, AT) != at || tree.get(device, ON) != 1) {
                    continue;
                }
                if (tree.get(device, TYPE) == ENDPOINT) {
                    addApertures(tree, device, kind);
                } else if (tree.get(device, LENGTH + kind) > 0) {
                    add(device, NONE, tree.get(device, ALIGN + kind),
                            tree.get(device, LENGTH + kind), tree.get(device, BEGIN + kind));
                }
            }
        }

        void addApertures(Tree tree, int device, int kind) {
            for (int a = 0; a < tree.get(device, HAS); a++) {
                if (tree.get(device, KIND + a) == kind) {
                    int units = tree.get(device, SIZE + a);
                    add(device, a, units, units, tree.get(device, BASE + a));
                }
            }
        }

        void add(int device, int a, int step, int units, int where) {
            if (count >= 0 && count < CAPACITY) {
                owner[count] = device;
                aperture[count] = a;
                align[count] = step;
                size[count] = units;
                base[count] = where;
                count++;
            }
        }

        void addFrom(Shelf other, int i) {
            if (i >= 0 && i < other.count && i < CAPACITY) {
                add(other.owner[i], other.aperture[i], other.align[i], other.size[i], other.base[i]);
            }
        }

        /** Those of greater ALIGN first, then of greater size; like ones stay as they were. */
        void order() {
            for (int i = 1; i < count && i < CAPACITY; i++) {
                for (int j = i; j > 0 && isAhead(j, j - 1); j--) {
                    swap(owner, j);
                    swap(aperture, j);
                    swap(align, j);
                    swap(size, j);
                    swap(base, j);
                }
            }
        }

        private boolean isAhead(int i, int j) {
            return align[i] > align[j] || align[i] == align[j] && size[i] > size[j];
        }

        private static void swap(int[] row, int j) {
            if (j > 0 && j < row.length) {
                int kept = row[j];
                row[j] = row[j - 1];
                row[j - 1] = kept;
            }
        }

        /** Lays all one behind another from 0 on: the end of the last one. */
        int lay() {
            int end = 0;
            for (int i = 0; i < count && i < CAPACITY; i++) {
                base[i] = roundUp(end, align[i]);
                end = base[i] + size[i];
            }
            return end;
        }

        int total() {
            int sum = 0;
            for (int i = 0; i < count && i < CAPACITY; i++) {
                sum += size[i];
            }
            return sum;
        }

        int greatestAlign() {
            int greatest = 0;
            for (int i = 0; i < count && i < CAPACITY; i++) {
                greatest = Math.max(greatest, align[i]);
            }
            return greatest;
        }

        /** The lowest multiple of a step where so many units lie within, and meet no THING. */
        int lowest(int units, int step, int begin, int end) {
            int where = roundUp(begin, step);
            // Each round but the last passes one more THING.
            for (int round = 0; round <= count; round++) {
                if (where + units > end) {
                    return NONE;
                }
                int met = firstMet(where, units, NONE);
                if (met == NONE) {
                    return where;
                }
                where = roundUp(base[met] + size[met], step);
            }
            return NONE;
        }

        private int firstMet(int where, int units, int but) {
            for (int i = 0; i < count && i < CAPACITY; i++) {
                if (i != but && base[i] < where + units && where < base[i] + size[i]) {
                    return i;
                }
            }
            return NONE;
        }

        /** The THING that holds an address, an APERTURE ahead of a WINDOW. */
        int holder(int address) {
            int window = NONE;
            for (int i = 0; i < count && i < CAPACITY; i++) {
                if (base[i] >= 0 && address >= base[i] && address - base[i] < size[i]) {
                    if (aperture[i] != NONE) {
                        return i;
                    }
                    window = i;
                }
            }
            return window;
        }

        /** How many meet another one, or are not within. */
        int offences(int begin, int end) {
            int found = 0;
            for (int i = 0; i < count && i < CAPACITY; i++) {
                boolean within = base[i] >= begin && base[i] + size[i] <= end;
                if (!within || firstMet(base[i], size[i], i) != NONE) {
                    found++;
                }
            }
            return found;
        }
    }

    /** POWER-UP. */
    private static final class Power {
        private final Shelf shelf = new Shelf();

        void run(Tree tree) {
            tree.turnAllOff();
            tree.refusals = 0;
            numberBus(tree, NONE, 1, 0);
            // Each round refuses one more DEVICE; the last one measures those that are left.
            for (int round = 0; round < DEVICES; round++) {
                int kind = 0;
                while (kind < KINDS && measure(tree, kind) <= tree.spaceOf(kind)) {
                    kind++;
                }
                if (kind == KINDS) {
                    break;
                }
                int greedy = tree.mostUnits(kind, true);
                tree.refuse(greedy != NONE ? greedy : tree.mostLeft());
            }
            for (int kind = 0; kind < KINDS; kind++) {
                layBus(tree, NONE, kind);
                for (int i = 0; i < tree.walked; i++) {
                    if (isOnBridge(tree, tree.walkAt(i))) {
                        layBus(tree, tree.walkAt(i), kind);
                    }
                }
            }
        }

        /** Numbers all BRIDGES on a BUS that is ON, and turns all on it ON: the next number. */
        private static int numberBus(Tree tree, int at, int from, int depth) {
            int next = from;
            for (int i = 0; i < tree.walked && depth <= DEEPEST; i++) {
                int device = tree.walkAt(i);
                if (tree.get(device, AT) != at) {
                    continue;
                }
                if (!tree.isBridge(device)) {
                    tree.set(device, ON, 1);
                } else if (next <= LAST_NUMBER) {
                    tree.set(device, ON, 1);
                    tree.set(device, FIRST, next);
                    int given = numberBus(tree, device, next + 1, depth + 1) - 1;
                    int last = Math.min(given + tree.get(device, NUMBERS), LAST_NUMBER);
                    tree.set(device, LAST, last);
                    next = last + 1;
                }
            }
            return next;
        }

        /** Gives each ON BRIDGE the size and ALIGN of its WINDOW: NEED of the HOST's BUS. */
        int measure(Tree tree, int kind) {
            // From the last by the WALK on, so that what is behind a BRIDGE is known first.
            for (int i = tree.walked - 1; i >= 0; i--) {
                int device = tree.walkAt(i);
                if (isOnBridge(tree, device)) {
                    int units = needOf(tree, device, kind) + tree.get(device, UNITS);
                    tree.set(device, LENGTH + kind, roundUp(units, WINDOW_STEP));
                    tree.set(device, ALIGN + kind, Math.max(WINDOW_STEP, shelf.greatestAlign()));
                }
            }
            return needOf(tree, NONE, kind);
        }

        private static boolean isOnBridge(Tree tree, int device) {
            return tree.get(device, TYPE) == BRIDGE && tree.get(device, ON) == 1;
        }

        /** NEED of a BUS behind which all is measured. */
        int needOf(Tree tree, int at, int kind) {
            shelf.gather(tree, at, kind);
            shelf.order();
            return shelf.lay();
        }

        int alignOf(Tree tree, int at, int kind) {
            shelf.gather(tree, at, kind);
            return shelf.greatestAlign();
        }

        private void layBus(Tree tree, int at, int kind) {
            needOf(tree, at, kind);
            int begin = tree.begin(at, kind);
            for (int i = 0; i < shelf.count && i < Shelf.CAPACITY; i++) {
                int a = shelf.aperture[i];
                int cell = a == NONE ? BEGIN + kind : BASE + a;
                tree.set(shelf.owner[i], cell, begin + shelf.base[i]);
            }
        }
    }

    /** START and REBALANCE. They write into the tree even where they fail: give them a copy. */
    private static final class Placer {
        // Far above the ways to take three of the APERTURES of a BUS.
        private static final int MOST_ROWS = 10000;

        private final Shelf bus = new Shelf();
        private final Shelf movable = new Shelf();
        private final Shelf standing = new Shelf();
        private final Shelf loose = new Shelf();
        private final int[] chosen = new int[MOST_MOVED];

        /** START, and its answer. */
        int begin(Tree tree, int device) {
            if (!tree.isThere(device) || tree.isOn(device)) {
                return NONE;
            }
            int at = tree.get(device, AT);
            if (!tree.isBusOn(at)) {
                return BUS_OFF;
            }
            if (tree.isBridge(device)) {
                return beginBridge(tree, device, at);
            }
            if (seat(tree, device, at, 0) == NONE) {
                return NO_ROOM;
            }
            tree.set(device, ON, 1);
            return tree.get(device, HAS);
        }

        private int beginBridge(Tree tree, int device, int at) {
            int first = tree.firstNumber(at);
            while (first <= LAST_NUMBER && !tree.isFree(at, first)) {
                first++;
            }
            if (first > LAST_NUMBER) {
                return NO_NUMBER;
            }
            int last = first;
            for (int more = tree.get(device, NUMBERS); more > 0; more--) {
                if (!tree.isFree(at, last + 1)) {
                    break;
                }
                last++;
            }
            for (int kind = 0; kind < KINDS; kind++) {
                if (!openWindow(tree, device, at, kind)) {
                    return NO_ROOM;
                }
            }
            tree.set(device, FIRST, first);
            tree.set(device, LAST, last);
            tree.set(device, ON, 1);
            return first;
        }

        private boolean openWindow(Tree tree, int device, int at, int kind) {
            int units = roundUp(tree.get(device, UNITS), WINDOW_STEP);
            if (units == 0) {
                return true;
            }
            bus.gather(tree, at, kind);
            int begin = tree.begin(at, kind);
            int where = bus.lowest(units, WINDOW_STEP, begin, begin + tree.length(at, kind));
            tree.set(device, BEGIN + kind, where);
            tree.set(device, LENGTH + kind, units);
            return where != NONE;
        }

        /** REBALANCE, and its answer. */
        int makeRoom(Tree tree, int device) {
            if (!tree.isEndpoint(device) || tree.isOn(device)) {
                return NONE;
            }
            int at = tree.get(device, AT);
            if (!tree.isBusOn(at)) {
                return BUS_OFF;
            }
            int moved = seat(tree, device, at, MOST_MOVED);
            if (moved == NONE) {
                return NO_ROOM;
            }
            tree.set(device, ON, 1);
            return moved;
        }

        /** Finds room on a BUS for all an ENDPOINT has: how many others are moved; NONE if none. */
        int seat(Tree tree, int device, int at, int most) {
            int moved = 0;
            for (int kind = 0; kind < KINDS; kind++) {
                int units = tree.unitsOf(device, kind);
                if (units == 0) {
                    continue;
                }
                takeBus(tree, at, kind);
                // No moving about makes more room than there is.
                boolean enough = units + bus.total() <= tree.length(at, kind);
                if (!enough || !findRow(tree, device, at, kind, most)) {
                    return NONE;
                }
                moved += settle(tree, device);
            }
            return moved;
        }

        private void takeBus(Tree tree, int at, int kind) {
            bus.gather(tree, at, kind);
            movable.clear();
            for (int i = 0; i < bus.count && i < Shelf.CAPACITY; i++) {
                if (bus.aperture[i] != NONE) {
                    movable.addFrom(bus, i);
                }
            }
        }

        /** The first of the shortest rows of APERTURES that, taken up, let all be laid down. */
        private boolean findRow(Tree tree, int device, int at, int kind, int most) {
            for (int length = 0; length <= most && length <= movable.count; length++) {
                for (int i = 0; i < length && i < MOST_MOVED; i++) {
                    chosen[i] = i;
                }
                for (int row = 0; row < MOST_ROWS; row++) {
                    takeUp(tree, device, kind, length);
                    if (layDown(tree, at, kind)) {
                        return true;
                    }
                    if (!nextRow(length)) {
                        break;
                    }
                }
            }
            return false;
        }

        private boolean nextRow(int length) {
            for (int i = Math.min(length, MOST_MOVED) - 1; i >= 0; i--) {
                if (chosen[i] < movable.count - length + i) {
                    chosen[i]++;
                    for (int j = i + 1; j < length && j < MOST_MOVED; j++) {
                        chosen[j] = chosen[j - 1] + 1;
                    }
                    return true;
                }
            }
            return false;
        }

        private boolean layDown(Tree tree, int at, int kind) {
            int begin = tree.begin(at, kind);
            int end = begin + tree.length(at, kind);
            for (int i = 0; i < loose.count && i < Shelf.CAPACITY; i++) {
                int units = loose.size[i];
                int where = standing.lowest(units, units, begin, end);
                if (where == NONE) {
                    return false;
                }
                loose.base[i] = where;
                standing.addFrom(loose, i);
            }
            return true;
        }

        /** Parts what is to be laid down, in its order, from what stays. */
        private void takeUp(Tree tree, int device, int kind, int length) {
            standing.clear();
            loose.clear();
            loose.addApertures(tree, device, kind);
            for (int i = 0; i < bus.count && i < Shelf.CAPACITY; i++) {
                if (bus.aperture[i] == NONE) {
                    standing.addFrom(bus, i);
                }
            }
            int next = 0;
            for (int i = 0; i < movable.count; i++) {
                if (next < length && next < MOST_MOVED && chosen[next] == i) {
                    loose.addFrom(movable, i);
                    next++;
                } else {
                    standing.addFrom(movable, i);
                }
            }
            loose.order();
        }

        private int settle(Tree tree, int device) {
            int moved = 0;
            for (int i = 0; i < loose.count && i < Shelf.CAPACITY; i++) {
                int cell = BASE + loose.aperture[i];
                int owner = loose.owner[i];
                if (owner != device && tree.get(owner, cell) != loose.base[i]) {
                    moved++;
                }
                tree.set(owner, cell, loose.base[i]);
            }
            return moved;
        }
    }

    /** The way of an address from BUS to BUS. */
    private static final class Route {
        private final Shelf shelf = new Shelf();
        int endpoint;
        int bridges;
        int top;

        /** From a BUS on down: whether any THING on that BUS holds the address. */
        boolean descend(Tree tree, int from, int kind, int address) {
            endpoint = NONE;
            bridges = 0;
            top = from;
            return sink(tree, from, kind, address);
        }

        /** From a BUS on: as far up as need be, then down. */
        void climb(Tree tree, int from, int kind, int address) {
            endpoint = NONE;
            bridges = 0;
            top = from;
            for (int level = 0; level <= DEEPEST; level++) {
                if (sink(tree, top, kind, address) || top == NONE || holds(tree, top, kind, address)) {
                    return;
                }
                bridges++;
                top = tree.get(top, AT);
            }
        }

        private static boolean holds(Tree tree, int at, int kind, int address) {
            int begin = tree.begin(at, kind);
            return begin >= 0 && address >= begin && address - begin < tree.length(at, kind);
        }

        private boolean sink(Tree tree, int from, int kind, int address) {
            int at = from;
            for (int level = 0; level <= DEEPEST; level++) {
                shelf.gather(tree, at, kind);
                int met = shelf.holder(address);
                if (met < 0 || met >= Shelf.CAPACITY) {
                    return level > 0;
                }
                if (shelf.aperture[met] != NONE) {
                    endpoint = shelf.owner[met];
                    return true;
                }
                bridges++;
                at = shelf.owner[met];
            }
            return true;
        }
    }

    /** The present tree, ACTS that can be taken back, and those that can be done again. */
    private static final class History {
        private static final int TREES = ACTS + 1;

        private final Tree[] ring = new Tree[TREES];
        private int place;
        int taken;
        int untaken;

        History() {
            for (int i = 0; i < TREES; i++) {
                ring[i] = new Tree();
            }
        }

        Tree now() {
            return place >= 0 && place < TREES ? ring[place] : ring[0];
        }

        /** One more ACT, after which all is as told. */
        void keep(Tree tree) {
            place = (place + 1) % TREES;
            now().copy(tree);
            taken = Math.min(taken + 1, ACTS);
            untaken = 0;
        }

        boolean stepBack() {
            if (taken == 0) {
                return false;
            }
            place = (place + TREES - 1) % TREES;
            taken--;
            untaken++;
            return true;
        }

        boolean stepForth() {
            if (untaken == 0) {
                return false;
            }
            place = (place + 1) % TREES;
            taken++;
            untaken--;
            return true;
        }

        /** All is as told, and no ACTS are kept. */
        void restart(Tree tree) {
            now().copy(tree);
            taken = 0;
            untaken = 0;
        }
    }
}
