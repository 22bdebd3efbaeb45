import java.util.ArrayDeque;
import java.util.ArrayList;
import java.util.Comparator;
import java.util.Deque;
import java.util.List;

/**
 * The document once more, written without regard for cost and unlike BusRanges where it can be:
 * BUSES as objects, units of a BUS as rows of booleans, copies of everything for UNDO.
 */
final class Model {
    static final int NONE = -1;

    static final class Aperture {
        int kind;
        int size;
        int base = NONE;
    }

    static final class Window {
        int begin;
        int size;
    }

    static final class Bus {
        Device bridge; // null: the HOST's
        Device[] slots = new Device[8];

        boolean isOn() {
            return bridge == null || bridge.on;
        }

        int level() {
            return bridge == null ? 0 : bridge.bus.level() + 1;
        }
    }

    static final class Device {
        int id;
        boolean isBridge;
        Bus bus;
        int slot;
        boolean on;
        int numbers;
        int units;
        List<Aperture> apertures = new ArrayList<>();
        Bus behind;
        int first = NONE;
        int last = NONE;
        Window[] windows = new Window[2];

        int unitsOf(int kind) {
            return apertures.stream().filter(a -> a.kind == kind).mapToInt(a -> a.size).sum();
        }

        void off() {
            on = false;
            first = NONE;
            last = NONE;
            windows = new Window[2];
            for (Aperture a : apertures) {
                a.base = NONE;
            }
        }
    }

    static final class World {
        Bus host = new Bus();
        int[] space = {256, 256};
        List<Integer> refused = new ArrayList<>();

        List<Device> walk() {
            List<Device> found = new ArrayList<>();
            walk(host, found);
            return found;
        }

        static void walk(Bus bus, List<Device> found) {
            for (Device d : bus.slots) {
                if (d != null) {
                    found.add(d);
                    if (d.isBridge) {
                        walk(d.behind, found);
                    }
                }
            }
        }

        Device byId(int id) {
            return walk().stream().filter(d -> d.id == id).findFirst().orElse(null);
        }

        World copy() {
            World w = new World();
            w.space = space.clone();
            w.refused = new ArrayList<>(refused);
            copyBus(host, w.host);
            return w;
        }

        private static void copyBus(Bus from, Bus to) {
            for (int s = 0; s < 8; s++) {
                if (from.slots[s] != null) {
                    to.slots[s] = copyDevice(from.slots[s], to);
                }
            }
        }

        private static Device copyDevice(Device from, Bus bus) {
            Device d = new Device();
            d.id = from.id;
            d.isBridge = from.isBridge;
            d.bus = bus;
            d.slot = from.slot;
            d.on = from.on;
            d.numbers = from.numbers;
            d.units = from.units;
            d.first = from.first;
            d.last = from.last;
            for (Aperture a : from.apertures) {
                Aperture b = new Aperture();
                b.kind = a.kind;
                b.size = a.size;
                b.base = a.base;
                d.apertures.add(b);
            }
            for (int k = 0; k < 2; k++) {
                if (from.windows[k] != null) {
                    d.windows[k] = new Window();
                    d.windows[k].begin = from.windows[k].begin;
                    d.windows[k].size = from.windows[k].size;
                }
            }
            if (from.isBridge) {
                d.behind = new Bus();
                d.behind.bridge = d;
                copyBus(from.behind, d.behind);
            }
            return d;
        }
    }

    /** An APERTURE or a WINDOW. */
    static final class Thing {
        Device device;
        int number = NONE;
        int align;
        int size;
        int base;
    }

    World world = new World();
    Deque<World> done = new ArrayDeque<>();
    Deque<World> undone = new ArrayDeque<>();
    World[] boxes = new World[2];

    private World before = new World();

    private void open() {
        before = world.copy();
    }

    private void act() {
        done.addLast(before);
        if (done.size() > 20) {
            done.removeFirst();
        }
        undone.clear();
    }

    static boolean kindOk(int kind) {
        return kind == 0 || kind == 1;
    }

    Bus busOf(int at) {
        if (at == NONE) {
            return world.host;
        }
        Device d = world.byId(at);
        return d == null ? null : d.behind;
    }

    static int height(Device d) {
        int h = 0;
        if (d.isBridge) {
            for (Device e : d.behind.slots) {
                if (e != null) {
                    h = Math.max(h, 1 + height(e));
                }
            }
        }
        return h;
    }

    int plug(boolean isBridge, int at, int slot, int numbers, int units) {
        Bus bus = busOf(at);
        if (bus == null || slot < 0 || slot > 7 || bus.slots[slot] != null || bus.level() > 4) {
            return NONE;
        }
        for (int id = 0; id < 20; id++) {
            if (world.byId(id) == null) {
                open();
                Device d = new Device();
                d.id = id;
                d.isBridge = isBridge;
                d.bus = bus;
                d.slot = slot;
                d.numbers = numbers;
                d.units = units;
                if (isBridge) {
                    d.behind = new Bus();
                    d.behind.bridge = d;
                }
                bus.slots[slot] = d;
                act();
                return id;
            }
        }
        return NONE;
    }

    int endpoint(int at, int slot) {
        return plug(false, at, slot, 0, 0);
    }

    int bridge(int at, int slot, int numbers, int units) {
        if (numbers < 0 || numbers > 3 || units < 0 || units > 128) {
            return NONE;
        }
        return plug(true, at, slot, numbers, units);
    }

    int aperture(int device, int kind, int e) {
        Device d = world.byId(device);
        if (d == null || d.isBridge || d.on || d.apertures.size() == 3 || !kindOk(kind) || e < 0 || e > 8) {
            return NONE;
        }
        open();
        Aperture a = new Aperture();
        a.kind = kind;
        a.size = (int) Math.pow(2, e);
        d.apertures.add(a);
        act();
        return d.apertures.size() - 1;
    }

    static List<Device> withBehind(Device d) {
        List<Device> all = new ArrayList<>();
        all.add(d);
        if (d.isBridge) {
            World.walk(d.behind, all);
        }
        return all;
    }

    int unplug(int device) {
        Device d = world.byId(device);
        if (d == null) {
            return NONE;
        }
        open();
        int n = withBehind(d).size();
        d.bus.slots[d.slot] = null;
        act();
        return n;
    }

    boolean shift(int device, int at, int slot) {
        Device d = world.byId(device);
        Bus bus = busOf(at);
        if (d == null || d.on || bus == null || slot < 0 || slot > 7 || bus.slots[slot] != null) {
            return false;
        }
        if (bus.bridge != null && withBehind(d).contains(bus.bridge)) {
            return false;
        }
        if (bus.level() + height(d) > 4) {
            return false;
        }
        open();
        d.bus.slots[d.slot] = null;
        bus.slots[slot] = d;
        d.bus = bus;
        d.slot = slot;
        act();
        return true;
    }

    boolean space(int kind, int size) {
        if (!kindOk(kind) || size < 0 || size > 1024 || on(world) > 0) {
            return false;
        }
        open();
        world.space[kind] = size;
        act();
        return true;
    }

    static int on(World w) {
        return (int) w.walk().stream().filter(d -> d.on).count();
    }

    // ---- POWER-UP ----

    private static int given; // the last number of all RANGES so far

    static void power(World w) {
        for (Device d : w.walk()) {
            d.off();
        }
        w.refused.clear();
        given = 0;
        number(w.host);
        while (true) {
            int crowded = NONE;
            for (int kind = 1; kind >= 0; kind--) {
                if (need(w, w.host, kind, false) > w.space[kind]) {
                    crowded = kind;
                }
            }
            if (crowded == NONE) {
                break;
            }
            final int k = crowded;
            List<Device> on = new ArrayList<>(w.walk());
            on.removeIf(d -> !d.on);
            Device out = null;
            for (Device d : on) {
                if (!d.isBridge && d.unitsOf(k) > (out == null ? 0 : out.unitsOf(k))) {
                    out = d;
                }
            }
            if (out == null) {
                for (Device d : on) {
                    if (d.isBridge && (out == null || d.units > out.units)) {
                        out = d;
                    }
                }
            }
            withBehind(out).forEach(Device::off);
            w.refused.add(out.id);
        }
        for (int kind = 0; kind < 2; kind++) {
            settle(w, w.host, kind, 0);
        }
    }

    private static void number(Bus bus) {
        for (Device d : bus.slots) {
            if (d == null) {
                continue;
            }
            if (!d.isBridge) {
                d.on = true;
            } else if (given + 1 <= 31) {
                d.on = true;
                given++;
                d.first = given;
                number(d.behind);
                given = Math.min(31, given + d.numbers);
                d.last = given;
            }
        }
    }

    /** The THINGS of a BUS as laid from 0 on. */
    static List<Thing> laid(World w, Bus bus, int kind, boolean all) {
        List<Thing> things = new ArrayList<>();
        for (Device d : bus.slots) {
            if (d == null || !(d.on || all)) {
                continue;
            }
            for (int a = 0; a < d.apertures.size(); a++) {
                if (d.apertures.get(a).kind == kind) {
                    Thing t = new Thing();
                    t.device = d;
                    t.number = a;
                    t.size = d.apertures.get(a).size;
                    t.align = t.size;
                    things.add(t);
                }
            }
            if (d.isBridge) {
                int units = need(w, d.behind, kind, all) + d.units;
                int size = (units + 15) / 16 * 16;
                if (size > 0) {
                    Thing t = new Thing();
                    t.device = d;
                    t.size = size;
                    t.align = Math.max(16, align(w, d.behind, kind, all));
                    things.add(t);
                }
            }
        }
        things.sort(Comparator.comparingInt((Thing t) -> -t.align).thenComparingInt(t -> -t.size)
                .thenComparingInt(t -> t.device.slot).thenComparingInt(t -> t.number));
        int end = 0;
        for (Thing t : things) {
            t.base = end;
            while (t.base % t.align != 0) {
                t.base++;
            }
            end = t.base + t.size;
        }
        return things;
    }

    static int need(World w, Bus bus, int kind, boolean all) {
        List<Thing> things = laid(w, bus, kind, all);
        return things.isEmpty() ? 0 : things.get(things.size() - 1).base + things.get(things.size() - 1).size;
    }

    static int align(World w, Bus bus, int kind, boolean all) {
        return laid(w, bus, kind, all).stream().mapToInt(t -> t.align).max().orElse(0);
    }

    private static void settle(World w, Bus bus, int kind, int begin) {
        for (Thing t : laid(w, bus, kind, false)) {
            if (t.number != NONE) {
                t.device.apertures.get(t.number).base = begin + t.base;
            } else {
                t.device.windows[kind] = new Window();
                t.device.windows[kind].begin = begin + t.base;
                t.device.windows[kind].size = t.size;
                settle(w, t.device.behind, kind, begin + t.base);
            }
        }
    }

    int powerUp() {
        open();
        power(world);
        act();
        return on(world);
    }

    int refused(int i) {
        return i >= 0 && i < world.refused.size() ? world.refused.get(i) : NONE;
    }

    // ---- START, STOP, REBALANCE ----

    /** Which units of all 1,024 are taken, or are not the BUS's at all. */
    static boolean[] taken(World w, Bus bus, int kind, List<Aperture> without) {
        boolean[] taken = new boolean[2048];
        int begin = 0;
        int size = 0;
        if (bus.bridge == null) {
            size = w.space[kind];
        } else if (bus.bridge.windows[kind] != null) {
            begin = bus.bridge.windows[kind].begin;
            size = bus.bridge.windows[kind].size;
        }
        for (int i = 0; i < taken.length; i++) {
            taken[i] = i < begin || i >= begin + size;
        }
        for (Device d : bus.slots) {
            if (d != null && d.on) {
                for (Aperture a : d.apertures) {
                    if (a.kind == kind && !without.contains(a)) {
                        mark(taken, a.base, a.size);
                    }
                }
                if (d.windows[kind] != null) {
                    mark(taken, d.windows[kind].begin, d.windows[kind].size);
                }
            }
        }
        return taken;
    }

    static void mark(boolean[] taken, int base, int size) {
        for (int i = base; i < base + size; i++) {
            taken[i] = true;
        }
    }

    /** The lowest place, which is marked then; NONE: there is none. */
    static int put(boolean[] taken, int size, int step) {
        for (int base = 0; base + size <= taken.length; base += step) {
            boolean free = true;
            for (int i = base; i < base + size && free; i++) {
                free = !taken[i];
            }
            if (free) {
                mark(taken, base, size);
                return base;
            }
        }
        return NONE;
    }

    static List<Aperture> ofKind(Device d, int kind) {
        List<Aperture> own = new ArrayList<>(d.apertures);
        own.removeIf(a -> a.kind != kind);
        return own;
    }

    static final Comparator<Aperture> GREATER_FIRST = Comparator.comparingInt(a -> -a.size);

    /** Puts all APERTURES of an ENDPOINT into the gaps of a BUS; false if one finds none. */
    static boolean putAll(World w, Device d, Bus bus) {
        for (int kind = 0; kind < 2; kind++) {
            List<Aperture> own = ofKind(d, kind);
            own.sort(GREATER_FIRST);
            boolean[] taken = taken(w, bus, kind, List.of());
            for (Aperture a : own) {
                a.base = put(taken, a.size, a.size);
                if (a.base == NONE) {
                    return false;
                }
            }
        }
        return true;
    }

    static boolean isFree(Bus bus, int n) {
        int first = bus.bridge == null ? 0 : bus.bridge.first;
        int last = bus.bridge == null ? 31 : bus.bridge.last;
        if (n <= first || n > last) {
            return false;
        }
        for (Device d : bus.slots) {
            if (d != null && d.on && d.isBridge && d.first <= n && n <= d.last) {
                return false;
            }
        }
        return true;
    }

    int start(int device) {
        Device d = world.byId(device);
        if (d == null || d.on) {
            return NONE;
        }
        if (!d.bus.isOn()) {
            return -2;
        }
        World kept = world.copy();
        before = kept;
        if (!d.isBridge) {
            if (!putAll(world, d, d.bus)) {
                world = kept;
                return -4;
            }
            d.on = true;
            act();
            return d.apertures.size();
        }
        int first = NONE;
        for (int n = 31; n >= 0; n--) {
            if (isFree(d.bus, n)) {
                first = n;
            }
        }
        if (first == NONE) {
            return -3;
        }
        int last = first;
        while (last - first < d.numbers && isFree(d.bus, last + 1)) {
            last++;
        }
        int size = (d.units + 15) / 16 * 16;
        for (int kind = 0; kind < 2 && size > 0; kind++) {
            Window window = new Window();
            window.begin = put(taken(world, d.bus, kind, List.of()), size, 16);
            window.size = size;
            if (window.begin == NONE) {
                world = kept;
                return -4;
            }
            d.windows[kind] = window;
        }
        d.on = true;
        d.first = first;
        d.last = last;
        act();
        return first;
    }

    int stop(int device) {
        Device d = world.byId(device);
        if (d == null || !d.on) {
            return NONE;
        }
        open();
        int n = 0;
        for (Device e : withBehind(d)) {
            n += e.on ? 1 : 0;
            e.off();
        }
        act();
        return n;
    }

    int rebalance(int device) {
        World kept = world.copy();
        int answer = rearrange(device);
        if (answer < 0) {
            world = kept;
        } else {
            before = kept;
            act();
        }
        return answer;
    }

    int moves(int device) {
        World kept = world.copy();
        int answer = rearrange(device);
        world = kept;
        return answer;
    }

    private int rearrange(int device) {
        Device d = world.byId(device);
        if (d == null || d.isBridge || d.on) {
            return NONE;
        }
        if (!d.bus.isOn()) {
            return -2;
        }
        int moved = 0;
        for (int kind = 0; kind < 2; kind++) {
            if (!ofKind(d, kind).isEmpty()) {
                int m = rearrange(d, kind);
                if (m < 0) {
                    return -4;
                }
                moved += m;
            }
        }
        d.on = true;
        return moved;
    }

    private int rearrange(Device d, int kind) {
        List<Aperture> others = new ArrayList<>(); // by SLOT, then by number
        for (Device e : d.bus.slots) {
            if (e != null && e.on) {
                others.addAll(ofKind(e, kind));
            }
        }
        List<List<Integer>> rows = new ArrayList<>();
        rows.add(List.of());
        int n = others.size();
        for (int i = 0; i < n; i++) {
            rows.add(List.of(i));
            for (int j = i + 1; j < n; j++) {
                rows.add(List.of(i, j));
                for (int k = j + 1; k < n; k++) {
                    rows.add(List.of(i, j, k));
                }
            }
        }
        rows.sort(Comparator.comparingInt(List::size)); // those of one size are in order already
        for (List<Integer> row : rows) {
            List<Aperture> loose = new ArrayList<>(ofKind(d, kind));
            List<Aperture> may = new ArrayList<>();
            for (int i : row) {
                may.add(others.get(i));
            }
            loose.addAll(may);
            loose.sort(GREATER_FIRST);
            boolean[] taken = taken(world, d.bus, kind, may);
            List<Integer> bases = new ArrayList<>();
            for (Aperture a : loose) {
                bases.add(put(taken, a.size, a.size));
                if (bases.contains(NONE)) {
                    break;
                }
            }
            if (bases.contains(NONE)) {
                continue;
            }
            int moved = 0;
            for (int i = 0; i < loose.size(); i++) {
                if (may.contains(loose.get(i)) && loose.get(i).base != bases.get(i)) {
                    moved++;
                }
                loose.get(i).base = bases.get(i);
            }
            return moved;
        }
        return NONE;
    }

    // ---- What is there ----

    int device(int device, int what) {
        Device d = world.byId(device);
        if (d == null || what < 0 || what > 6) {
            return -2;
        }
        int at = d.bus.bridge == null ? NONE : d.bus.bridge.id;
        int[] all = {d.isBridge ? 1 : 0, at, d.slot, d.on ? 1 : 0, d.apertures.size(), d.numbers, d.units};
        return all[what];
    }

    int bar(int device, int aperture, int what) {
        Device d = world.byId(device);
        if (d == null || aperture < 0 || aperture >= d.apertures.size() || what < 0 || what > 2) {
            return -2;
        }
        Aperture a = d.apertures.get(aperture);
        return new int[] {a.kind, a.size, d.on ? a.base : NONE}[what];
    }

    int window(int bridge, int what) {
        Device d = world.byId(bridge);
        if (d == null || !d.isBridge || !d.on || what < 0 || what > 5) {
            return -2;
        }
        if (what < 2) {
            return what == 0 ? d.first : d.last;
        }
        Window w = d.windows[what / 2 - 1];
        return what % 2 == 0 ? (w == null ? NONE : w.begin) : (w == null ? 0 : w.size);
    }

    static int busNumber(Bus bus) {
        return bus.bridge == null ? 0 : bus.bridge.on ? bus.bridge.first : NONE;
    }

    int bus(int device) {
        Device d = world.byId(device);
        return d == null ? NONE : busNumber(d.bus);
    }

    int find(int bus, int slot) {
        if (bus < 0) {
            return NONE;
        }
        for (Device d : world.walk()) {
            if (busNumber(d.bus) == bus && d.slot == slot) {
                return d.id;
            }
        }
        return NONE;
    }

    int walk(int i) {
        List<Device> walk = world.walk();
        return i >= 0 && i < walk.size() ? walk.get(i).id : NONE;
    }

    // ---- Addresses ----

    /** The THING of a BUS that holds an address, or null. */
    static Thing holder(Bus bus, int kind, long address) {
        for (Device d : bus.slots) {
            if (d == null || !d.on) {
                continue;
            }
            for (int a = 0; a < d.apertures.size(); a++) {
                Aperture p = d.apertures.get(a);
                if (p.kind == kind && address >= p.base && address < (long) p.base + p.size) {
                    Thing t = new Thing();
                    t.device = d;
                    t.number = a;
                    return t;
                }
            }
            Window w = d.windows[kind];
            if (w != null && address >= w.begin && address < (long) w.begin + w.size) {
                Thing t = new Thing();
                t.device = d;
                return t;
            }
        }
        return null;
    }

    /** {the ENDPOINT, by how many WINDOWS}; null: in no THING of the BUS. */
    static int[] sink(Bus bus, int kind, int address) {
        Thing t = holder(bus, kind, address);
        if (t == null) {
            return null;
        }
        if (t.number != NONE) {
            return new int[] {t.device.id, 0};
        }
        int[] then = sink(t.device.behind, kind, address);
        return then == null ? new int[] {NONE, 1} : new int[] {then[0], then[1] + 1};
    }

    int owner(int kind, int address) {
        int[] way = kindOk(kind) ? sink(world.host, kind, address) : null;
        return way == null ? NONE : way[0];
    }

    int way(int kind, int address) {
        int[] way = kindOk(kind) ? sink(world.host, kind, address) : null;
        return way == null ? NONE : way[1];
    }

    int peer(int device, int kind, int address, int what) {
        Device d = world.byId(device);
        if (d == null || !d.bus.isOn() || !kindOk(kind) || what < 0 || what > 2) {
            return -2;
        }
        Bus bus = d.bus;
        int up = 0;
        while (true) {
            int[] way = sink(bus, kind, address);
            if (way != null) {
                return new int[] {way[0], up + way[1], busNumber(bus)}[what];
            }
            if (bus.bridge == null) {
                break;
            }
            Window w = bus.bridge.windows[kind];
            if (w != null && address >= w.begin && address < (long) w.begin + w.size) {
                break;
            }
            up++;
            bus = bus.bridge.bus;
        }
        return new int[] {NONE, up, busNumber(bus)}[what];
    }

    // ---- The rest ----

    int fill(int bridge, int kind, int e) {
        Bus bus = busOf(bridge);
        if (bus == null || !kindOk(kind) || !bus.isOn() || e < 0 || e > 8) {
            return -2;
        }
        boolean[] taken = taken(world, bus, kind, List.of());
        int n = 0;
        while (put(taken, 1 << e, 1 << e) != NONE) {
            n++;
        }
        return n;
    }

    int blame(int device) {
        Device d = world.byId(device);
        if (d == null || d.isBridge) {
            return -2;
        }
        World w = world.copy();
        power(w);
        if (w.byId(device).on) {
            return NONE;
        }
        for (Device other : world.walk()) {
            if (!other.isBridge && other != d) {
                World v = world.copy();
                Device gone = v.byId(other.id);
                gone.bus.slots[gone.slot] = null;
                power(v);
                if (v.byId(device).on) {
                    return other.id;
                }
            }
        }
        return NONE;
    }

    int chance(int seed, int below, int what) {
        if (seed < 0 || seed > 999 || below < 0 || below > 100 || what < 0 || what > 2) {
            return NONE;
        }
        World w = world.copy();
        int x = seed;
        int gone = 0;
        for (Device d : w.walk()) {
            if (!d.isBridge) {
                x = (x * 137 + 71) % 1000;
                if (x % 100 < below) {
                    d.bus.slots[d.slot] = null;
                    gone++;
                }
            }
        }
        power(w);
        return new int[] {on(w), gone, w.refused.size()}[what];
    }

    int wire(int device, int pin) {
        Device d = world.byId(device);
        if (d == null || pin < 0 || pin > 3) {
            return NONE;
        }
        int at = pin;
        for (Device e = d; e != null; e = e.bus.bridge) {
            at = (at + e.slot) % 4;
        }
        return at;
    }

    /** The way from the HOST's BUS to a DEVICE: BUSES and BRIDGES by turns, itself last. */
    static List<Object> path(Device d) {
        List<Object> path = d.bus.bridge == null ? new ArrayList<>() : path(d.bus.bridge);
        path.add(d.bus);
        path.add(d);
        return path;
    }

    int hops(int device, int other) {
        Device a = world.byId(device);
        Device b = world.byId(other);
        if (a == null || b == null) {
            return NONE;
        }
        List<Object> up = path(a);
        List<Object> down = path(b);
        int shared = 0;
        while (shared < up.size() && shared < down.size() && up.get(shared) == down.get(shared)) {
            shared++;
        }
        List<Object> way = new ArrayList<>(up.subList(shared - 1, up.size()));
        way.addAll(down.subList(shared - 1, down.size()));
        return (int) way.stream().distinct().filter(x -> x instanceof Device && x != a && x != b).count();
    }

    int common(int device, int other) {
        Device a = world.byId(device);
        Device b = world.byId(other);
        if (a == null || b == null) {
            return -2;
        }
        int last = NONE;
        for (Device d : world.walk()) {
            if (d.isBridge) {
                List<Device> behind = withBehind(d);
                behind.remove(d);
                if (behind.contains(a) && behind.contains(b)) {
                    last = d.id; // the WALK comes to the deeper one later
                }
            }
        }
        return last;
    }

    int need(int bridge, int kind) {
        Bus bus = busOf(bridge);
        return bus == null || !kindOk(kind) ? -2 : need(world, bus, kind, true);
    }

    int align(int bridge, int kind) {
        Bus bus = busOf(bridge);
        return bus == null || !kindOk(kind) ? -2 : align(world, bus, kind, true);
    }

    int gap(int bridge, int kind) {
        return fill(bridge, kind, 0);
    }

    int room(int bridge, int kind) {
        if (fill(bridge, kind, 0) == -2) {
            return -2;
        }
        int e = 8;
        while (e >= 0 && fill(bridge, kind, e) == 0) {
            e--;
        }
        return e;
    }

    int spare(int bridge) {
        Bus bus = busOf(bridge);
        if (bus == null || !bus.isOn()) {
            return -2;
        }
        int n = 0;
        for (int i = 0; i < 32; i++) {
            n += isFree(bus, i) ? 1 : 0;
        }
        return n;
    }

    int place(int device) {
        Device d = world.byId(device);
        if (d == null || d.isBridge || d.on) {
            return -2;
        }
        List<Integer> order = new ArrayList<>();
        order.add(NONE);
        for (Device b : world.walk()) {
            if (b.isBridge && b.on) {
                order.add(b.id);
            }
        }
        for (int at : order) {
            World w = world.copy();
            Model m = new Model();
            m.world = w;
            Bus bus = m.busOf(at);
            boolean own = w.byId(device).bus == bus;
            boolean slot = false;
            for (int s = 0; s < 8; s++) {
                slot |= bus.slots[s] == null;
            }
            if ((own || slot && bus.level() <= 4) && putAll(w, w.byId(device), bus)) {
                return at;
            }
        }
        return -2;
    }

    int greediest(int kind) {
        if (!kindOk(kind)) {
            return NONE;
        }
        int most = world.walk().stream().filter(d -> !d.isBridge).mapToInt(d -> d.unitsOf(kind)).max().orElse(0);
        return most == 0 ? NONE : world.walk().stream().filter(d -> !d.isBridge && d.unitsOf(kind) == most)
                .findFirst().get().id;
    }

    int would(int what) {
        if (what < 0 || what > 3) {
            return NONE;
        }
        World w = world.copy();
        power(w);
        int moved = 0;
        int off = 0;
        for (Device d : world.walk()) {
            Device then = w.byId(d.id);
            if (d.on && !then.on) {
                off++;
            }
            for (int a = 0; a < d.apertures.size(); a++) {
                if (d.on && then.on && d.apertures.get(a).base != then.apertures.get(a).base) {
                    moved++;
                }
            }
        }
        return new int[] {on(w), moved, off, w.refused.size()}[what];
    }

    int units(int kind, int what) {
        if (!kindOk(kind) || what < 0 || what > 3) {
            return NONE;
        }
        int[] sums = new int[4];
        for (Device d : world.walk()) {
            int window = d.windows[kind] == null ? 0 : d.windows[kind].size;
            int own = d.unitsOf(kind);
            sums[3] += own;
            sums[2] += window;
            sums[0] += d.on ? own : 0;
            sums[1] += d.on && d.bus == world.host ? own + window : 0;
        }
        return sums[what];
    }

    int law(int kind) {
        // The document's ways to lay and to put leave nothing that could offend.
        return kindOk(kind) ? 0 : NONE;
    }

    boolean undo() {
        if (done.isEmpty()) {
            return false;
        }
        undone.addLast(world);
        world = done.removeLast();
        return true;
    }

    boolean redo() {
        if (undone.isEmpty()) {
            return false;
        }
        done.addLast(world);
        world = undone.removeLast();
        return true;
    }

    int image(int box) {
        if (box != 0 && box != 1) {
            return NONE;
        }
        boxes[box] = world.copy();
        return world.walk().size();
    }

    int back(int box) {
        if (box != 0 && box != 1 || boxes[box] == null) {
            return NONE;
        }
        world = boxes[box].copy();
        done.clear();
        undone.clear();
        return world.walk().size();
    }

    int about(int what) {
        List<Device> all = world.walk();
        switch (what) {
            case 0:
                return all.size();
            case 1:
                return (int) all.stream().filter(d -> d.isBridge).count();
            case 2:
                return on(world);
            case 3:
                return all.stream().filter(d -> d.on).mapToInt(d -> d.apertures.size()).sum();
            case 4:
                return all.stream().filter(d -> d.on && d.isBridge).mapToInt(d -> d.first).max().orElse(0);
            case 5:
                return world.refused.size();
            case 6:
                return done.size();
            case 7:
                return undone.size();
            case 8:
            case 9:
                return world.space[what - 8];
            default:
                return NONE;
        }
    }
}
