/** Boundary cases that promises 14 to 43 name. What is due is worked out by hand from the document. */
final class BoundaryOfAnswers extends Trees {
    private static final int[] NO_DEVICES = {LEAST, -2, -1, 5, 19, 20, MOST};
    private static final int[] NO_BRIDGES = {LEAST, -2, 1, 3, 4, 5, 19, 20, MOST};
    private static final int[] NO_KINDS = {LEAST, -1, 2, MOST};

    private BoundaryOfAnswers() {
    }

    // ---- device(), bar(), window() ----

    @Sentence(in = "Promise 14", says = "Of a DEVICE what 0: 0 ENDPOINT, 1 BRIDGE,")
    static void deviceType() {
        BusRanges x = nested();
        ask("DEVICE 0, a BRIDGE", x.device(0, 0), 1);
        ask("an ENDPOINT", x.device(1, 0), 0);
        x = full();
        ask("DEVICE 19, an ENDPOINT", x.device(19, 0), 0);
    }

    @Sentence(in = "Promise 14", says = "1: the BRIDGE it is behind (NONE: the HOST's BUS),")
    static void deviceBehind() {
        BusRanges x = nested();
        ask("a BRIDGE on the HOST's BUS", x.device(0, 1), NONE);
        ask("an ENDPOINT on the HOST's BUS", x.device(4, 1), NONE);
        ask("behind DEVICE 0", x.device(1, 1), 0);
        ask("behind two, the nearer", x.device(3, 1), 2);
    }

    @Sentence(in = "Promise 14", says = "2: SLOT, 3: 1 if it is ON, else 0,")
    static void deviceSlotAndOn() {
        BusRanges x = nested();
        x.endpoint(NONE, 0);
        x.endpoint(NONE, 7);
        ask("the lowest SLOT", x.device(5, 2), 0);
        ask("the greatest SLOT", x.device(6, 2), 7);
        ask("OFF", x.device(5, 3), 0);
        ask("ON", x.device(3, 3), 1);
        x.stop(2);
        ask("OFF with its BRIDGE", x.device(3, 3), 0);
    }

    @Sentence(in = "Promise 14", says = "4: how many APERTURES (0 of a BRIDGE),")
    static void deviceApertures() {
        BusRanges x = nested();
        x.endpoint(NONE, 0);
        endpoint(x, NONE, 7, 0, 0, 0, 0, 1, 0);
        ask("none", x.device(5, 4), 0);
        ask("three", x.device(6, 4), 3);
        ask("of a BRIDGE with WINDOWS", x.device(0, 4), 0);
    }

    @Sentence(in = "Promise 14", says = "5: NUMBERS, 6: UNITS that it leaves (0 of an ENDPOINT).")
    static void deviceLeaves() {
        BusRanges x = nested();
        x.bridge(2, 7, 3, 128);
        ask("most NUMBERS", x.device(5, 5), 3);
        ask("most UNITS", x.device(5, 6), 128);
        ask("no NUMBERS", x.device(0, 5), 0);
        ask("no UNITS", x.device(2, 6), 0);
        ask("NUMBERS of an ENDPOINT", x.device(4, 5), 0);
        ask("UNITS of an ENDPOINT", x.device(4, 6), 0);
        x.unplug(5);
        x.endpoint(2, 7);
        ask("of an ENDPOINT with the number of a BRIDGE", x.device(5, 6), 0);
    }

    @Sentence(in = "Promise 14", says = "-2 if there is none such,")
    static void deviceNone() {
        BusRanges x = nested();
        for (int device : NO_DEVICES) {
            ask("of " + device, x.device(device, 0), -2);
            ask("SLOT of " + device, x.device(device, 2), -2);
        }
        x.unplug(2);
        ask("unplugged with another", x.device(3, 0), -2);
    }

    @Sentence(in = "Promise 14", says = "or for another what.")
    static void deviceWhat() {
        BusRanges x = nested();
        for (int what : new int[] {LEAST, -1, 7, MOST}) {
            ask("what " + what + " of a BRIDGE", x.device(0, what), -2);
            ask("what " + what + " of an ENDPOINT", x.device(1, what), -2);
        }
    }

    @Sentence(in = "Promise 15", says = "Of an APERTURE what 0: KIND, 1: units,")
    static void barKindAndUnits() {
        BusRanges x = nested();
        endpoint(x, NONE, 0, 1, 8, 0, 0, 1, 1);
        ask("KIND of the first", x.bar(5, 0, 0), 1);
        ask("KIND of the second", x.bar(5, 1, 0), 0);
        ask("most units", x.bar(5, 0, 1), 256);
        ask("least units", x.bar(5, 1, 1), 1);
        ask("units of the third", x.bar(5, 2, 1), 2);
    }

    @Sentence(in = "Promise 15", says = "2: BASE (NONE: OFF).")
    static void barBase() {
        BusRanges x = nested();
        ask("ON, at 0", x.bar(3, 0, 2), 0);
        ask("ON, elsewhere", x.bar(4, 0, 2), 64);
        x.stop(2);
        ask("OFF with its BRIDGE", x.bar(3, 0, 2), NONE);
        x.stop(4);
        ask("OFF", x.bar(4, 0, 2), NONE);
        x.stop(0);
        x.space(0, 0);
        x.powerUp();
        ask("REFUSED", x.bar(4, 0, 2), NONE);
    }

    @Sentence(in = "Promise 15", says = "-2 if there is none such,")
    static void barNone() {
        BusRanges x = nested();
        for (int device : NO_DEVICES) {
            ask("of " + device, x.bar(device, 0, 0), -2);
        }
        ask("of a BRIDGE", x.bar(0, 0, 0), -2);
        for (int a : new int[] {LEAST, -1, 2, 3, MOST}) {
            ask("APERTURE " + a + " of two", x.bar(3, a, 1), -2);
        }
        x.endpoint(NONE, 0);
        ask("APERTURE 0 of none", x.bar(5, 0, 2), -2);
    }

    @Sentence(in = "Promise 15", says = "or for another what.")
    static void barWhat() {
        BusRanges x = nested();
        for (int what : new int[] {LEAST, -1, 3, MOST}) {
            ask("what " + what, x.bar(3, 0, what), -2);
        }
    }

    @Sentence(in = "Promise 16", says = "Of an ON BRIDGE what 0: the first, 1: the last number of its RANGE,")
    static void windowNumbers() {
        BusRanges x = nested();
        Due.are("of two numbers", range(x, 0), 1, 2);
        Due.are("of one number", range(x, 2), 2, 2);
        x = crowdOfNumbers();
        Due.are("of 31 alone", range(x, 9), 31, 31);
    }

    @Sentence(in = "Promise 16", says = "2: where its WINDOW of KIND 0 begins, 3: its size, 4, 5: of KIND 1")
    static void windowOfEachKind() {
        BusRanges x = nested();
        Due.are("the outer", window(x, 0), 1, 2, 0, 64, 64, 32);
        Due.are("the inner", window(x, 2), 2, 2, 0, 32, 64, 16);
    }

    @Sentence(in = "Promise 16", says = "(NONE, 0: it has none).")
    static void windowOfNone() {
        BusRanges x = nested();
        x.bridge(NONE, 0, 0, 0);
        x.start(5);
        Due.are("of neither KIND", window(x, 5), 3, 3, NONE, 0, NONE, 0);
        endpoint(x, 5, 0, 1, 0);
        x.powerUp();
        Due.are("of KIND 1 alone", window(x, 5), 1, 1, NONE, 0, 96, 16);
        x.unplug(6);
        endpoint(x, 5, 0, 0, 0);
        x.powerUp();
        Due.are("of KIND 0 alone", window(x, 5), 1, 1, 64, 16, NONE, 0);
    }

    @Sentence(in = "Promise 16", says = "-2 if there is none such,")
    static void windowNoBridge() {
        BusRanges x = nested();
        for (int bridge : NO_BRIDGES) {
            ask("of " + bridge, x.window(bridge, 0), -2);
            ask("size of " + bridge, x.window(bridge, 3), -2);
        }
        ask("of NONE", x.window(NONE, 0), -2);
    }

    @Sentence(in = "Promise 16", says = "it is OFF,")
    static void windowOff() {
        BusRanges x = nested();
        x.stop(0);
        for (int what = 0; what < 6; what++) {
            ask("what " + what, x.window(0, what), -2);
            ask("what " + what + " behind it", x.window(2, what), -2);
        }
        x = crowdOfNumbers();
        ask("for want of a number", x.window(10, 0), -2);
    }

    @Sentence(in = "Promise 16", says = "or for another what.")
    static void windowWhat() {
        BusRanges x = nested();
        for (int what : new int[] {LEAST, -1, 6, MOST}) {
            ask("what " + what, x.window(0, what), -2);
        }
    }

    // ---- bus(), find(), walk() ----

    @Sentence(in = "Promise 17", says = "The number of the BUS that a DEVICE is on;")
    static void busNumber() {
        BusRanges x = nested();
        ask("on the HOST's", x.bus(0), 0);
        ask("behind one", x.bus(2), 1);
        ask("behind two", x.bus(3), 2);
        x.stop(0);
        ask("OFF, on the HOST's", x.bus(0), 0);
        x = crowdOfNumbers();
        x.endpoint(9, 0);
        ask("OFF, on BUS 31", x.bus(11), 31);
    }

    @Sentence(in = "Promise 17", says = "NONE if there is none such,")
    static void busNone() {
        BusRanges x = nested();
        for (int device : NO_DEVICES) {
            ask("of " + device, x.bus(device), NONE);
        }
    }

    @Sentence(in = "Promise 17", says = "or that BUS is not ON.")
    static void busOff() {
        BusRanges x = nested();
        x.stop(2);
        ask("behind the inner one", x.bus(3), NONE);
        ask("the inner one itself", x.bus(2), 1);
        x.stop(0);
        ask("the inner one itself then", x.bus(2), NONE);
        x = crowdOfNumbers();
        x.endpoint(10, 0);
        ask("behind one without a number", x.bus(11), NONE);
    }

    @Sentence(in = "Promise 18", says = "The DEVICE in a SLOT of the BUS of a number;")
    static void findOnABus() {
        BusRanges x = nested();
        x.endpoint(2, 7);
        ask("on BUS 0", x.find(0, 5), 4);
        ask("on BUS 1", x.find(1, 1), 1);
        ask("on BUS 2, SLOT 0", x.find(2, 0), 3);
        ask("on BUS 2, SLOT 7, OFF", x.find(2, 7), 5);
        x.stop(0);
        ask("OFF, on BUS 0", x.find(0, 2), 0);
    }

    @Sentence(in = "Promise 18", says = "NONE if there is none such.")
    static void findNone() {
        BusRanges x = nested();
        for (int bus : new int[] {LEAST, -1, 3, 31, 32, MOST}) {
            ask("BUS " + bus, x.find(bus, 0), NONE);
        }
        for (int slot : new int[] {LEAST, -1, 8, MOST}) {
            ask("SLOT " + slot + " of BUS 0", x.find(0, slot), NONE);
            ask("SLOT " + slot + " of BUS 1", x.find(1, slot), NONE);
        }
        ask("a SLOT that is free", x.find(0, 0), NONE);
        x.stop(2);
        ask("on a BUS that is OFF", x.find(2, 0), NONE);
        x = new BusRanges();
        x.bridge(NONE, 0, 1, 0);
        x.endpoint(0, 0);
        x.powerUp();
        ask("the last of a RANGE is no BUS's", x.find(2, 0), NONE);
        ask("the first is", x.find(1, 0), 1);
    }

    @Sentence(in = "Promise 19", says = "The i-th DEVICE by the WALK (from 0);")
    static void walkFromZero() {
        BusRanges x = nested();
        x.endpoint(NONE, 0);
        x.endpoint(NONE, 7);
        Due.are("by the WALK", walk(x), 5, 0, 1, 2, 3, 4, 6);
        ask("0", x.walk(0), 5);
        ask("the last of 20", full().walk(19), 3);
    }

    @Sentence(in = "Promise 19", says = "NONE if there is none such.")
    static void walkNone() {
        BusRanges x = nested();
        for (int i : new int[] {LEAST, -1, 5, 19, 20, MOST}) {
            ask("the one of " + i, x.walk(i), NONE);
        }
        x.unplug(0);
        ask("one is left", x.walk(0), 4);
        ask("no other", x.walk(1), NONE);
        ask("20 of 20", full().walk(20), NONE);
    }

    // ---- owner(), way(), peer() ----

    @Sentence(in = "Promise 20", says = "The ENDPOINT to which an address of a KIND goes: from the HOST's BUS on, an APERTURE on that BUS that holds it;")
    static void ownerOnTheHostsBus() {
        BusRanges x = nested();
        ask("its first unit", x.owner(0, 64), 4);
        ask("its last unit", x.owner(0, 67), 4);
        ask("KIND 1, its first", x.owner(1, 0), 4);
        ask("KIND 1, its last", x.owner(1, 63), 4);
        x = withSpace(1024);
        x.endpoint(NONE, 0);
        for (int i = 1; i < 6; i++) {
            endpoint(x, NONE, i, 0, 8);
            x.start(i);
        }
        ask("the last unit of all", x.owner(0, 1023), 4);
        ask("no unit behind that", x.owner(0, 1024), NONE);
    }

    @Sentence(in = "Promise 20", says = "else a WINDOW there that holds it, then on the BUS behind likewise.")
    static void ownerByWindows() {
        BusRanges x = nested();
        ask("by two, its first unit", x.owner(0, 0), 3);
        ask("by two, its last unit", x.owner(0, 31), 3);
        ask("by one, its first unit", x.owner(0, 32), 1);
        ask("by one, its last unit", x.owner(0, 39), 1);
        ask("KIND 1 by two, its last unit", x.owner(1, 67), 3);
        x = deep();
        ask("by four, its first unit", x.owner(0, 16), 5);
        ask("by four, its last unit", x.owner(0, 19), 5);
    }

    @Sentence(in = "Promise 20", says = "NONE if there is none such,")
    static void ownerNone() {
        BusRanges x = nested();
        for (int address : new int[] {LEAST, -1, 40, 63, 68, 255, 256, MOST}) {
            ask("address " + address, x.owner(0, address), NONE);
        }
        ask("KIND 1, behind one of 4", x.owner(1, 68), NONE);
        x.stop(3);
        ask("one that is OFF", x.owner(0, 0), NONE);
        ask("by five, to none", deep().owner(0, 15), NONE);
        ask("of a new object", new BusRanges().owner(0, 0), NONE);
    }

    @Sentence(in = "Promise 20", says = "or no such KIND.")
    static void ownerNoKind() {
        BusRanges x = nested();
        for (int kind : NO_KINDS) {
            for (int address = 0; address < 96; address += 4) {
                ask("KIND " + kind + ", address " + address, x.owner(kind, address), NONE);
            }
        }
    }

    @Sentence(in = "Promise 21", says = "By how many WINDOWS an address goes, till it finds its APERTURE, or none;")
    static void wayByWindows() {
        BusRanges x = nested();
        ask("by none", x.way(0, 64), 0);
        ask("by one", x.way(0, 32), 1);
        ask("by two", x.way(0, 31), 2);
        ask("by one, then none holds it", x.way(0, 40), 1);
        ask("the last of that WINDOW", x.way(0, 63), 1);
        ask("by two, then none holds it", x.way(1, 68), 2);
        ask("the last of that WINDOW", x.way(1, 79), 2);
        ask("behind it", x.way(1, 80), 1);
        x = deep();
        ask("by four", x.way(0, 19), 4);
        ask("by four, then none holds it", x.way(0, 20), 4);
        ask("by five, then none holds it", x.way(0, 15), 5);
    }

    @Sentence(in = "Promise 21", says = "NONE if it is in no THING of the HOST's BUS,")
    static void wayNone() {
        BusRanges x = nested();
        for (int address : new int[] {LEAST, -1, 68, 255, 256, MOST}) {
            ask("address " + address, x.way(0, address), NONE);
        }
        x.stop(4);
        ask("of one that is OFF", x.way(0, 64), NONE);
        ask("of a new object", new BusRanges().way(0, 0), NONE);
    }

    @Sentence(in = "Promise 21", says = "or there is no such KIND.")
    static void wayNoKind() {
        BusRanges x = nested();
        for (int kind : NO_KINDS) {
            for (int address = 0; address < 96; address += 4) {
                ask("KIND " + kind + ", address " + address, x.way(kind, address), NONE);
            }
        }
    }

    private static int[] peer(BusRanges x, int device, int kind, int address) {
        return new int[] {x.peer(device, kind, address, 0), x.peer(device, kind, address, 1),
            x.peer(device, kind, address, 2)};
    }

    @Sentence(in = "Promise 22", says = "From a DEVICE's BUS an address of a KIND goes: to an APERTURE on that BUS that holds it;")
    static void peerOnItsBus() {
        BusRanges x = nested();
        Due.are("its own, the first unit", peer(x, 3, 0, 0), 3, 0, 2);
        Due.are("its own, the last unit", peer(x, 3, 0, 31), 3, 0, 2);
        Due.are("of one beside it", peer(x, 2, 0, 39), 1, 0, 1);
        Due.are("on the HOST's", peer(x, 0, 1, 63), 4, 0, 0);
        x.endpoint(2, 7);
        Due.are("from one that is OFF", peer(x, 5, 0, 31), 3, 0, 2);
    }

    @Sentence(in = "Promise 22", says = "else into a WINDOW there that holds it, then on as in owner();")
    static void peerDown() {
        BusRanges x = nested();
        Due.are("down one", peer(x, 1, 0, 31), 3, 1, 1);
        Due.are("down two", peer(x, 4, 1, 67), 3, 2, 0);
        Due.are("down one, to none", peer(x, 4, 0, 63), NONE, 1, 0);
        Due.are("down two, to none", peer(x, 4, 1, 68), NONE, 2, 0);
        x = deep();
        Due.are("down four", peer(x, 6, 0, 16), 5, 4, 0);
        Due.are("down five, to none", peer(x, 6, 0, 0), NONE, 5, 0);
    }

    @Sentence(in = "Promise 22", says = "else, if that BUS is behind a BRIDGE, whose WINDOW does not hold it, through that to the BUS that it is on, and so on.")
    static void peerUp() {
        BusRanges x = nested();
        Due.are("up one", peer(x, 3, 0, 32), 1, 1, 1);
        Due.are("up two", peer(x, 3, 0, 64), 4, 2, 0);
        Due.are("its WINDOW holds it", peer(x, 1, 0, 63), NONE, 0, 1);
        Due.are("up one, whose WINDOW holds it", peer(x, 3, 0, 63), NONE, 1, 1);
        Due.are("up two, to none", peer(x, 3, 0, 68), NONE, 2, 0);
        Due.are("on the HOST's, to none", peer(x, 4, 0, 68), NONE, 0, 0);
        for (int address : new int[] {LEAST, -1, MOST}) {
            Due.are("address " + address, peer(x, 3, 1, address), NONE, 2, 0);
        }
        Due.are("up four", peer(deep(), 5, 0, 39), 6, 4, 0);
        x = new BusRanges();
        endpoint(x, NONE, 0, 0, 4);
        x.start(0);
        x.bridge(NONE, 1, 0, 16);
        x.start(1);
        x.endpoint(1, 0);
        Due.are("just ahead of its WINDOW", peer(x, 2, 0, 15), 0, 1, 0);
        Due.are("where its WINDOW begins", peer(x, 2, 0, 16), NONE, 0, 1);
        Due.are("where its WINDOW ends", peer(x, 2, 0, 31), NONE, 0, 1);
        Due.are("just behind it", peer(x, 2, 0, 32), NONE, 1, 0);
    }

    @Sentence(in = "Promise 22", says = "What 0: the ENDPOINT to which it goes (NONE: to none),")
    static void peerEndpoint() {
        BusRanges x = nested();
        ask("ENDPOINT 4", x.peer(3, 0, 67, 0), 4);
        ask("none", x.peer(3, 0, 68, 0), NONE);
        x = new BusRanges();
        endpoint(x, NONE, 0, 0, 0);
        x.start(0);
        ask("ENDPOINT 0", x.peer(0, 0, 0, 0), 0);
    }

    @Sentence(in = "Promise 22", says = "1: through how many BRIDGES it goes, up and down, till it does, or goes no more,")
    static void peerBridges() {
        BusRanges x = nested();
        x.bridge(NONE, 6, 0, 0);
        x.endpoint(5, 0);
        x.start(5);
        ask("up none and down none", x.peer(0, 0, 64, 1), 0);
        ask("up one and down two", x.peer(6, 0, 0, 1), 3);
        ask("up one and down one", x.peer(6, 0, 32, 1), 2);
        ask("up one and down one, to none", x.peer(6, 0, 40, 1), 2);
        ask("up one, to none", x.peer(6, 0, 68, 1), 1);
        x = deep();
        ask("up four", x.peer(5, 0, 39, 1), 4);
        ask("up four, to none", x.peer(4, 0, 40, 1), 4);
        ask("down five", x.peer(6, 0, 15, 1), 5);
    }

    @Sentence(in = "Promise 22", says = "2: the number of that BUS on its way that is nearest to the HOST.")
    static void peerNearest() {
        BusRanges x = nested();
        ask("its own BUS", x.peer(3, 0, 0, 2), 2);
        ask("down from BUS 1", x.peer(1, 0, 0, 2), 1);
        ask("up to BUS 1", x.peer(3, 0, 32, 2), 1);
        ask("up to the HOST's", x.peer(3, 0, 64, 2), 0);
        ask("up to the HOST's, to none", x.peer(1, 0, 255, 2), 0);
    }

    @Sentence(in = "Promise 22", says = "-2 if there is no such DEVICE,")
    static void peerNoDevice() {
        BusRanges x = nested();
        for (int device : NO_DEVICES) {
            for (int what = 0; what < 3; what++) {
                ask("of " + device + " what " + what, x.peer(device, 0, 0, what), -2);
            }
        }
    }

    @Sentence(in = "Promise 22", says = "its BUS is not ON,")
    static void peerBusOff() {
        BusRanges x = nested();
        x.stop(2);
        for (int what = 0; what < 3; what++) {
            ask("behind the inner one what " + what, x.peer(3, 0, 64, what), -2);
        }
        ask("the inner one itself", x.peer(2, 0, 64, 0), 4);
        x.stop(0);
        ask("the inner one then", x.peer(2, 0, 64, 0), -2);
    }

    @Sentence(in = "Promise 22", says = "or there is no such KIND, what.")
    static void peerNoKind() {
        BusRanges x = nested();
        for (int kind : NO_KINDS) {
            ask("KIND " + kind, x.peer(3, kind, 0, 0), -2);
        }
        for (int what : new int[] {LEAST, -1, 3, MOST}) {
            ask("what " + what, x.peer(3, 0, 0, what), -2);
        }
    }

    // ---- fill(), blame(), chance() ----

    @Sentence(in = "Promise 23", says = "How many APERTURES of 2 to the power of e (0 .. 8) would find room there now, one by one, as in START (SLOTS aside);")
    static void fillOneByOne() {
        BusRanges x = nested();
        int[] host = {188, 94, 47, 23, 11, 5, 2, 1, 0};
        int[] outer = {24, 12, 6, 3, 1, 0, 0, 0, 0};
        for (int e = 0; e < 9; e++) {
            ask("of the SPACE, 2 to the power of " + e, x.fill(NONE, 0, e), host[e]);
            ask("of a WINDOW, 2 to the power of " + e, x.fill(0, 0, e), outer[e]);
            ask("of a full WINDOW, 2 to the power of " + e, x.fill(2, 0, e), 0);
        }
        ask("of a WINDOW that begins at 64", x.fill(0, 1, 4), 1);
        x.bridge(NONE, 0, 0, 0);
        x.start(5);
        ask("without a WINDOW", x.fill(5, 0, 0), 0);
        x = withSpace(1024);
        ask("1,024 of 1 unit, SLOTS aside", x.fill(NONE, 0, 0), 1024);
        ask("four of 256", x.fill(NONE, 0, 8), 4);
        x.space(0, 1023);
        ask("three of 256", x.fill(NONE, 0, 8), 3);
        x.space(0, 0);
        ask("no SPACE", x.fill(NONE, 0, 0), 0);
    }

    @Sentence(in = "Promise 23", says = "-2 as in gap(),")
    static void fillNone() {
        BusRanges x = nested();
        for (int bridge : NO_BRIDGES) {
            ask("behind " + bridge, x.fill(bridge, 0, 0), -2);
        }
        for (int kind : NO_KINDS) {
            ask("KIND " + kind, x.fill(NONE, kind, 0), -2);
        }
        x.stop(2);
        ask("an OFF BRIDGE", x.fill(2, 0, 0), -2);
    }

    @Sentence(in = "Promise 23", says = "or if there is no such e.")
    static void fillNoExponent() {
        BusRanges x = nested();
        for (int e : new int[] {LEAST, -1, 9, 31, 32, MOST}) {
            ask("e " + e, x.fill(NONE, 0, e), -2);
        }
    }

    /** A SPACE of 24: 4 units (SLOT 0), 8 (SLOT 2), 16 (SLOT 4), which is REFUSED. */
    private static BusRanges oneTooMany() {
        BusRanges x = withSpace(24);
        endpoint(x, NONE, 0, 0, 2);
        endpoint(x, NONE, 2, 0, 3);
        endpoint(x, NONE, 4, 0, 4);
        return x;
    }

    @Sentence(in = "Promise 24", says = "The first ENDPOINT by the WALK, but this one, without which (were it unplugged) POWER-UP would leave this one ON;")
    static void blameFirst() {
        BusRanges x = oneTooMany();
        ask("either would do", x.blame(2), 0);
        x.shift(0, NONE, 7);
        ask("the first by the WALK", x.blame(2), 1);
        x.shift(0, NONE, 0);
        x.space(0, 20);
        ask("8 alone would do", x.blame(2), 1);
        x = withSpace(16);
        endpoint(x, NONE, 0, 0, 4);
        endpoint(x, NONE, 1, 0, 4);
        ask("one behind it", x.blame(0), 1);
        ask("nothing is done", x.about(0), 2);
    }

    @Sentence(in = "Promise 24", says = "NONE if POWER-UP would leave it ON anyway,")
    static void blameAnyway() {
        BusRanges x = oneTooMany();
        ask("of 4, OFF now", x.blame(0), NONE);
        x.powerUp();
        ask("of 8, ON now", x.blame(1), NONE);
        x = withSpace(8);
        endpoint(x, NONE, 0, 0, 2);
        x.start(0);
        endpoint(x, NONE, 1, 0, 3);
        x.stop(0);
        ask("one that was OFF", x.blame(0), NONE);
    }

    @Sentence(in = "Promise 24", says = "or there is none;")
    static void blameNone() {
        BusRanges x = oneTooMany();
        x.space(0, 16);
        ask("one is not enough", x.blame(2), NONE);
        x.space(0, 8);
        x.unplug(0);
        x.unplug(1);
        ask("but itself none", x.blame(2), NONE);
        x = withSpace(16);
        x.bridge(NONE, 0, 0, 16);
        endpoint(x, NONE, 1, 0, 4);
        ask("a BRIDGE is none", x.blame(1), NONE);
        x = crowdOfNumbers();
        x.endpoint(10, 0);
        x.endpoint(0, 0);
        ask("for want of a number", x.blame(11), NONE);
    }

    @Sentence(in = "Promise 24", says = "-2 if there is no such ENDPOINT.")
    static void blameNoEndpoint() {
        BusRanges x = nested();
        for (int device : NO_DEVICES) {
            ask("of " + device, x.blame(device), -2);
        }
        ask("a BRIDGE", x.blame(0), -2);
    }

    /**
     * By the WALK ENDPOINTS 2, 3 and 0, of which 3 is behind BRIDGE 1. From 7: 137 * 7 + 71 = 1,030, so
     * 30: a DRAW of 30; 137 * 30 + 71 = 4,181, so 181: 81; 137 * 181 + 71 = 24,868, so 868: 68.
     */
    private static BusRanges threeDraws() {
        BusRanges x = withSpace(4);
        endpoint(x, NONE, 7, 0, 2);
        x.bridge(NONE, 2, 0, 0);
        endpoint(x, NONE, 0, 0, 3);
        x.endpoint(1, 0);
        return x;
    }

    @Sentence(in = "Promise 25", says = "Were POWER-UP done, ahead of which each ENDPOINT, by the WALK, is unplugged, if a DRAW is below so much (0 .. 100):")
    static void chanceBelow() {
        BusRanges x = threeDraws();
        int[] below = {0, 30, 31, 68, 69, 81, 82, 100};
        int[] due = {0, 0, 1, 1, 2, 2, 3, 3};
        for (int i = 0; i < below.length; i++) {
            ask("below " + below[i], x.chance(7, below[i], 1), due[i]);
        }
        ask("the first by the WALK is 2: none is REFUSED then", x.chance(7, 31, 2), 0);
        ask("BRIDGES stay", x.chance(7, 100, 0), 1);
        ask("of none", new BusRanges().chance(0, 100, 1), 0);
    }

    @Sentence(in = "Promise 25", says = "x (0 .. 999; the seed at first) becomes 137 times x and 71 more, modulo 1,000;")
    static void chanceSeeds() {
        BusRanges x = new BusRanges();
        x.endpoint(NONE, 0);
        ask("from 0: 71", x.chance(0, 71, 1), 0);
        ask("from 0: 71, below 72", x.chance(0, 72, 1), 1);
        ask("from 999: 136,934", x.chance(999, 34, 1), 0);
        ask("from 999: 136,934, below 35", x.chance(999, 35, 1), 1);
        x.endpoint(NONE, 1);
        ask("from 999, 934: 128,029", x.chance(999, 29, 1), 0);
        ask("from 999, 934: 128,029, below 30", x.chance(999, 30, 1), 1);
    }

    @Sentence(in = "Promise 25", says = "a DRAW is its rest by 100.")
    static void chanceDraw() {
        BusRanges x = new BusRanges();
        x.endpoint(NONE, 0);
        ask("from 7: 30, a DRAW of 30", x.chance(7, 30, 1), 0);
        ask("below 31", x.chance(7, 31, 1), 1);
        ask("from 27: 770, a DRAW of 70", x.chance(27, 70, 1), 0);
        ask("below 71", x.chance(27, 71, 1), 1);
        ask("from 17: 400, a DRAW of 0", x.chance(17, 0, 1), 0);
        ask("below 1", x.chance(17, 1, 1), 1);
    }

    @Sentence(in = "Promise 25", says = "What 0: how many DEVICES would be ON, 1: how many would be unplugged so, 2: how many REFUSED;")
    static void chanceWhat() {
        BusRanges x = threeDraws();
        ask("ON, with one REFUSED", x.chance(7, 30, 0), 3);
        ask("unplugged", x.chance(7, 30, 1), 0);
        ask("REFUSED", x.chance(7, 30, 2), 1);
        ask("ON, without one unplugged", x.chance(7, 31, 0), 3);
        ask("unplugged then", x.chance(7, 31, 1), 1);
        ask("REFUSED then", x.chance(7, 31, 2), 0);
    }

    @Sentence(in = "Promise 25", says = "NONE if there is no such seed,")
    static void chanceNoSeed() {
        BusRanges x = threeDraws();
        for (int seed : new int[] {LEAST, -1, 1000, MOST}) {
            ask("seed " + seed, x.chance(seed, 50, 0), NONE);
        }
        ask("seed 0", x.chance(0, 0, 1), 0);
        ask("seed 999", x.chance(999, 0, 1), 0);
    }

    @Sentence(in = "Promise 25", says = "so much,")
    static void chanceNotSoMuch() {
        BusRanges x = threeDraws();
        for (int below : new int[] {LEAST, -1, 101, MOST}) {
            ask("below " + below, x.chance(7, below, 0), NONE);
        }
        ask("below 0", x.chance(7, 0, 1), 0);
        ask("below 100", x.chance(7, 100, 1), 3);
    }

    @Sentence(in = "Promise 25", says = "what.")
    static void chanceNoWhat() {
        BusRanges x = threeDraws();
        for (int what : new int[] {LEAST, -1, 3, MOST}) {
            ask("what " + what, x.chance(7, 50, what), NONE);
        }
    }

    @Sentence(in = "Promise 25", says = "(Nothing is done.)")
    static void chanceDoesNothing() {
        BusRanges x = threeDraws();
        x.start(0);
        x.start(1);
        x.undo();
        String before = told(x);
        x.chance(7, 100, 0);
        x.chance(7, 0, 2);
        x.chance(1000, 0, 0);
        unchanged(x, before);
    }

    // ---- wire(), hops(), common() ----

    @Sentence(in = "Promise 26", says = "At which wire (0 .. 3) a pin (0 .. 3) of a DEVICE comes to the HOST:")
    static void wireOfEachPin() {
        BusRanges x = new BusRanges();
        x.endpoint(NONE, 0);
        x.endpoint(NONE, 7);
        int[] due = {3, 0, 1, 2};
        for (int pin = 0; pin < 4; pin++) {
            ask("SLOT 0, pin " + pin, x.wire(0, pin), pin);
            ask("SLOT 7, pin " + pin, x.wire(1, pin), due[pin]);
        }
    }

    @Sentence(in = "Promise 26", says = "on its BUS, and, BRIDGE by BRIDGE that it is behind, on the BUS of that, too, it goes on by as many as the SLOT there tells (modulo 4);")
    static void wireOfEachBus() {
        BusRanges x = nested();
        ask("SLOT 5", x.wire(4, 0), 1);
        ask("SLOTS 1 and 2", x.wire(1, 0), 3);
        ask("SLOTS 3 and 2, a BRIDGE", x.wire(2, 0), 1);
        ask("SLOTS 0, 3 and 2", x.wire(3, 2), 3);
        x = chain();
        x.endpoint(3, 7);
        x.shift(0, NONE, 7);
        ask("SLOTS 7, 0, 0, 0 and 7", x.wire(5, 0), 2);
        ask("that is OFF, and comes round", x.wire(5, 3), 1);
    }

    @Sentence(in = "Promise 26", says = "NONE if there is none such.")
    static void wireNone() {
        BusRanges x = nested();
        for (int device : NO_DEVICES) {
            ask("of " + device, x.wire(device, 0), NONE);
        }
        for (int pin : new int[] {LEAST, -1, 4, MOST}) {
            ask("pin " + pin, x.wire(4, pin), NONE);
        }
    }

    @Sentence(in = "Promise 27", says = "How many BRIDGES lie between two DEVICES (what is on the way from the one to the other, without themselves);")
    static void hopsBetween() {
        BusRanges x = nested();
        ask("itself", x.hops(3, 3), 0);
        ask("a BRIDGE itself", x.hops(2, 2), 0);
        ask("on one BUS", x.hops(1, 2), 0);
        ask("what it is behind", x.hops(3, 2), 0);
        ask("what is behind it", x.hops(2, 3), 0);
        ask("behind what it is behind", x.hops(0, 3), 1);
        ask("up one", x.hops(3, 1), 1);
        ask("down one", x.hops(1, 3), 1);
        ask("up two", x.hops(3, 4), 2);
        x = deep();
        x.bridge(NONE, 7, 0, 0);
        x.endpoint(7, 0);
        ask("up four and down one", x.hops(5, 8), 5);
        ask("from a BRIDGE behind four", x.hops(8, 4), 5);
    }

    @Sentence(in = "Promise 27", says = "NONE if there are none such.")
    static void hopsNone() {
        BusRanges x = nested();
        for (int device : NO_DEVICES) {
            ask("from " + device, x.hops(device, 0), NONE);
            ask("to " + device, x.hops(3, device), NONE);
            ask("from and to " + device, x.hops(device, device), NONE);
        }
    }

    @Sentence(in = "Promise 28", says = "The last BRIDGE behind which both are (itself is not behind itself);")
    static void commonBridge() {
        BusRanges x = nested();
        x.endpoint(2, 1);
        ask("on one BUS", x.common(3, 5), 2);
        ask("on two BUSES", x.common(3, 1), 0);
        ask("the other way", x.common(1, 3), 0);
        ask("what it is behind", x.common(3, 2), 0);
        ask("what is behind it", x.common(2, 3), 0);
        ask("itself", x.common(3, 3), 2);
        ask("a BRIDGE itself", x.common(2, 2), 0);
        x = deep();
        ask("behind four", x.common(5, 4), 3);
        x.endpoint(0, 7);
        ask("behind four and behind one", x.common(5, 7), 0);
    }

    @Sentence(in = "Promise 28", says = "NONE: the HOST's BUS is the first common one;")
    static void commonOfTheHost() {
        BusRanges x = nested();
        ask("one on it", x.common(3, 4), NONE);
        ask("a BRIDGE on it", x.common(3, 0), NONE);
        ask("that itself", x.common(0, 0), NONE);
        x.bridge(NONE, 0, 0, 0);
        x.endpoint(5, 0);
        ask("behind two of it", x.common(6, 3), NONE);
    }

    @Sentence(in = "Promise 28", says = "-2 if there are none such.")
    static void commonNone() {
        BusRanges x = nested();
        for (int device : NO_DEVICES) {
            ask("of " + device, x.common(device, 3), -2);
            ask("and " + device, x.common(3, device), -2);
            ask("twice " + device, x.common(device, device), -2);
        }
    }

    // ---- need() to spare() ----

    @Sentence(in = "Promise 29", says = "NEED of the BUS behind a BRIDGE (NONE: of the HOST's), were all DEVICES ON;")
    static void needWereAllOn() {
        BusRanges x = nested();
        ask("behind the inner", x.need(2, 0), 32);
        ask("behind the outer", x.need(0, 0), 40);
        ask("of the HOST's", x.need(NONE, 0), 68);
        ask("KIND 1 behind the inner", x.need(2, 1), 4);
        x.stop(0);
        x.stop(4);
        x.space(0, 0);
        ask("all OFF, and no SPACE", x.need(NONE, 0), 68);
        ask("behind one that is OFF", x.need(2, 0), 32);
        ask("none is ON then", x.about(2), 0);
        ask("of nothing", new BusRanges().need(NONE, 0), 0);
        x = crowdOfNumbers();
        endpoint(x, 10, 0, 0, 8);
        ask("one without a number, too", x.need(NONE, 0), 256);
    }

    @Sentence(in = "Promise 29", says = "-2 if there is no such BRIDGE, KIND.")
    static void needNone() {
        BusRanges x = nested();
        for (int bridge : NO_BRIDGES) {
            ask("behind " + bridge, x.need(bridge, 0), -2);
        }
        for (int kind : NO_KINDS) {
            ask("KIND " + kind, x.need(0, kind), -2);
            ask("KIND " + kind + " of the HOST's", x.need(NONE, kind), -2);
        }
    }

    @Sentence(in = "Promise 30", says = "ALIGN that is greatest there, were all DEVICES ON (0: no THING);")
    static void alignWereAllOn() {
        BusRanges x = nested();
        ask("behind the inner", x.align(2, 0), 32);
        ask("of a WINDOW of 32 behind", x.align(0, 0), 32);
        ask("of a WINDOW of 4 behind", x.align(0, 1), 16);
        ask("of the HOST's", x.align(NONE, 1), 64);
        x.stop(0);
        ask("OFF", x.align(NONE, 0), 32);
        x.bridge(NONE, 0, 0, 0);
        ask("no THING", x.align(5, 0), 0);
        ask("no THING in a new object", new BusRanges().align(NONE, 0), 0);
        x.endpoint(5, 0);
        x.aperture(6, 0, 0);
        ask("of 1", x.align(5, 0), 1);
        ask("none of KIND 1", x.align(5, 1), 0);
    }

    @Sentence(in = "Promise 30", says = "likewise.")
    static void alignNone() {
        BusRanges x = nested();
        for (int bridge : NO_BRIDGES) {
            ask("behind " + bridge, x.align(bridge, 0), -2);
        }
        for (int kind : NO_KINDS) {
            ask("KIND " + kind, x.align(0, kind), -2);
            ask("KIND " + kind + " of the HOST's", x.align(NONE, kind), -2);
        }
    }

    @Sentence(in = "Promise 31", says = "How many units of the WINDOW of the BUS behind a BRIDGE (NONE: of the SPACE) no THING there has now;")
    static void gapNow() {
        BusRanges x = nested();
        ask("of the SPACE", x.gap(NONE, 0), 188);
        ask("of a WINDOW", x.gap(0, 0), 24);
        ask("of a full one", x.gap(2, 0), 0);
        ask("KIND 1", x.gap(2, 1), 12);
        x.stop(3);
        ask("empty", x.gap(2, 0), 32);
        x.stop(2);
        x.start(2);
        ask("no WINDOW", x.gap(2, 0), 0);
        ask("all of the SPACE", new BusRanges().gap(NONE, 1), 256);
        ask("no SPACE", withSpace(0).gap(NONE, 0), 0);
        ask("most SPACE", withSpace(1024).gap(NONE, 0), 1024);
    }

    @Sentence(in = "Promise 31", says = "-2 if there is no such BRIDGE, KIND,")
    static void gapNone() {
        BusRanges x = nested();
        for (int bridge : NO_BRIDGES) {
            ask("behind " + bridge, x.gap(bridge, 0), -2);
        }
        for (int kind : NO_KINDS) {
            ask("KIND " + kind, x.gap(0, kind), -2);
            ask("KIND " + kind + " of the SPACE", x.gap(NONE, kind), -2);
        }
    }

    @Sentence(in = "Promise 31", says = "or it is OFF.")
    static void gapOff() {
        BusRanges x = nested();
        x.stop(0);
        ask("it", x.gap(0, 0), -2);
        ask("what is behind it", x.gap(2, 0), -2);
        ask("for want of a number", crowdOfNumbers().gap(10, 0), -2);
    }

    @Sentence(in = "Promise 32", says = "The greatest e (0 .. 8), so that an APERTURE of 2 to the power of e would find room there now;")
    static void roomNow() {
        BusRanges x = nested();
        ask("of the SPACE", x.room(NONE, 0), 7);
        ask("of a WINDOW", x.room(0, 0), 4);
        ask("KIND 1 of a WINDOW", x.room(2, 1), 3);
        ask("8", new BusRanges().room(NONE, 0), 8);
        ask("no more than 8", withSpace(1024).room(NONE, 0), 8);
        ask("one unit short of 8", withSpace(255).room(NONE, 0), 7);
        ask("0", withSpace(1).room(NONE, 0), 0);
        x = rowOfTwos(4);
        x.stop(1);
        x.stop(2);
        ask("2 .. 5: 4 units, but 2 at once", x.room(NONE, 0), 1);
    }

    @Sentence(in = "Promise 32", says = "NONE if there is none;")
    static void roomForNone() {
        BusRanges x = nested();
        ask("of a full WINDOW", x.room(2, 0), NONE);
        x.bridge(NONE, 0, 0, 0);
        x.start(5);
        ask("without a WINDOW", x.room(5, 0), NONE);
        ask("no SPACE", withSpace(0).room(NONE, 0), NONE);
    }

    @Sentence(in = "Promise 32", says = "likewise.")
    static void roomNone() {
        BusRanges x = nested();
        for (int bridge : NO_BRIDGES) {
            ask("behind " + bridge, x.room(bridge, 0), -2);
        }
        for (int kind : NO_KINDS) {
            ask("KIND " + kind, x.room(0, kind), -2);
            ask("KIND " + kind + " of the SPACE", x.room(NONE, kind), -2);
        }
        x.stop(2);
        ask("an OFF BRIDGE", x.room(2, 0), -2);
    }

    @Sentence(in = "Promise 33", says = "How many numbers of the RANGE of a BRIDGE (NONE: of the HOST's) are free;")
    static void spareNumbers() {
        BusRanges x = new BusRanges();
        ask("all but 0", x.spare(NONE), 31);
        x.bridge(NONE, 0, 3, 0);
        x.bridge(0, 0, 1, 0);
        x.powerUp();
        Due.are("1 .. 6 and 2 .. 3", new int[] {x.window(0, 1), x.window(1, 1)}, 6, 3);
        ask("of the HOST's", x.spare(NONE), 25);
        ask("of 1 .. 6", x.spare(0), 3);
        ask("of 2 .. 3", x.spare(1), 1);
        x.stop(1);
        ask("but the first", x.spare(0), 5);
        x = crowdOfNumbers();
        ask("none of the HOST's", x.spare(NONE), 0);
        ask("none of 31 .. 31", x.spare(9), 0);
        ask("none of 30 .. 31", x.spare(8), 0);
        x.stop(9);
        ask("31", x.spare(8), 1);
    }

    @Sentence(in = "Promise 33", says = "-2 if there is no such BRIDGE,")
    static void spareNone() {
        BusRanges x = nested();
        for (int bridge : NO_BRIDGES) {
            ask("of " + bridge, x.spare(bridge), -2);
        }
    }

    @Sentence(in = "Promise 33", says = "or it is OFF.")
    static void spareOff() {
        BusRanges x = nested();
        x.stop(0);
        ask("it", x.spare(0), -2);
        ask("what is behind it", x.spare(2), -2);
        ask("for want of a number", crowdOfNumbers().spare(10), -2);
    }

    // ---- place(), greediest(), would(), units(), law() ----

    @Sentence(in = "Promise 34", says = "Where an ENDPOINT that is OFF would find room now by START, had it a SLOT there:")
    static void placeWithRoom() {
        BusRanges x = withSpace(48);
        x.bridge(NONE, 0, 0, 16);
        x.start(0);
        endpoint(x, NONE, 1, 0, 4, 1, 4);
        ask("32 units of the SPACE", x.place(1), NONE);
        x.space(0, 0);
        x.start(1);
        endpoint(x, NONE, 2, 0, 4, 1, 4);
        ask("16 units of the SPACE", x.place(2), NONE);
        x.start(2);
        endpoint(x, NONE, 3, 0, 4, 1, 4);
        ask("16 units of the WINDOW", x.place(3), 0);
        x.aperture(3, 0, 0);
        ask("17 units", x.place(3), -2);
        ask("as room by START alone, not by REBALANCE", placeByStart(), -2);
    }

    private static int placeByStart() {
        BusRanges x = rowOfTwos(4);
        x.stop(0);
        x.stop(2);
        endpoint(x, NONE, 7, 0, 2);
        return x.place(4);
    }

    @Sentence(in = "Promise 34", says = "the first, the HOST's BUS (NONE) ahead of BRIDGES by the WALK,")
    static void placeFirst() {
        BusRanges x = withSpace(64);
        x.bridge(NONE, 6, 0, 16);
        x.bridge(NONE, 5, 0, 16);
        x.start(0);
        x.start(1);
        endpoint(x, NONE, 0, 0, 4);
        ask("the HOST's BUS", x.place(2), NONE);
        endpoint(x, NONE, 1, 0, 4, 0, 4);
        x.start(3);
        ask("the first by the WALK, not by number", x.place(2), 1);
        endpoint(x, 1, 0, 0, 4);
        x.start(4);
        ask("the next by the WALK", x.place(2), 0);
    }

    @Sentence(in = "Promise 34", says = "which is ON")
    static void placeOn() {
        BusRanges x = withSpace(16);
        x.bridge(NONE, 0, 0, 16);
        endpoint(x, 0, 0, 0, 0);
        ask("the HOST's BUS is", x.place(1), NONE);
        x.start(endpoint(x, NONE, 1, 0, 4));
        ask("an OFF BRIDGE, though it is behind that", x.place(1), -2);
        x.stop(2);
        x.start(0);
        ask("ON", x.place(1), 0);
        x = new BusRanges();
        x.bridge(NONE, 0, 0, 0);
        x.endpoint(0, 0);
        for (int slot = 1; slot < 8; slot++) {
            x.endpoint(NONE, slot);
        }
        ask("one without APERTURES behind an OFF BRIDGE", x.place(1), -2);
        x.start(0);
        ask("behind an ON one", x.place(1), 0);
    }

    @Sentence(in = "Promise 34", says = "and has a SLOT free where it could be plugged in (or is its own);")
    static void placeSlot() {
        BusRanges x = new BusRanges();
        x.bridge(NONE, 0, 0, 16);
        x.start(0);
        endpoint(x, 0, 0, 0, 0);
        for (int slot = 1; slot < 8; slot++) {
            ask("a SLOT of the HOST's", x.place(1), NONE);
            x.endpoint(NONE, slot);
        }
        ask("no SLOT of the HOST's, but its own", x.place(1), 0);
        ask("its own SLOT of the HOST's", x.place(8), NONE);
        for (int slot = 1; slot < 8; slot++) {
            x.endpoint(0, slot);
        }
        ask("no SLOT but its own anywhere", x.place(1), 0);
        ask("its own, behind a BRIDGE", x.place(15), 0);
        x.unplug(8);
        ask("SLOT 7 of the HOST's again", x.place(15), NONE);
        placeInTheOnlySlot();
        placeTooDeep();
    }

    /** The HOST's BUS has no SPACE, and of the BUS behind BRIDGE 0 one SLOT is free. */
    private static void placeInTheOnlySlot() {
        for (int free = 0; free < 8; free++) {
            BusRanges x = withSpace(16);
            x.bridge(NONE, 0, 0, 16);
            x.start(0);
            endpoint(x, NONE, 1, 0, 4);
            for (int slot = 0; slot < 8; slot++) {
                if (slot != free) {
                    x.endpoint(0, slot);
                }
            }
            ask("SLOT " + free + " alone is free", x.place(1), 0);
            x.endpoint(0, free);
            ask("none is free", x.place(1), -2);
        }
    }

    /** BRIDGE 4 has a WINDOW, but an ENDPOINT behind it would be behind five. */
    private static void placeTooDeep() {
        BusRanges x = new BusRanges();
        int at = NONE;
        for (int i = 0; i < 5; i++) {
            at = x.bridge(at, 0, 0, i == 4 ? 16 : 0);
        }
        for (int slot = 1; slot < 8; slot++) {
            x.endpoint(NONE, slot);
        }
        endpoint(x, 3, 1, 0, 4);
        x.powerUp();
        x.stop(12);
        ask("behind four", x.place(12), 3);
        x.shift(12, 1, 7);
        ask("behind four, which is not its own", x.place(12), 3);
        endpoint(x, 3, 2, 0, 4);
        x.start(13);
        ask("there would be room behind five", x.room(4, 0), 4);
        ask("but no SLOT", x.place(12), -2);
    }

    @Sentence(in = "Promise 34", says = "-2 if there is none,")
    static void placeNowhere() {
        BusRanges x = withSpace(4);
        endpoint(x, NONE, 0, 0, 2);
        endpoint(x, NONE, 1, 0, 0);
        x.start(0);
        ask("no room", x.place(1), -2);
        x.stop(0);
        ask("room", x.place(1), NONE);
        for (int slot = 2; slot < 8; slot++) {
            x.bridge(NONE, slot, 0, 0);
        }
        endpoint(x, 2, 0, 0, 0);
        ask("no SLOT", x.place(8), -2);
    }

    @Sentence(in = "Promise 34", says = "no such ENDPOINT,")
    static void placeNoEndpoint() {
        BusRanges x = nested();
        for (int device : NO_DEVICES) {
            ask("of " + device, x.place(device), -2);
        }
        ask("a BRIDGE, ON", x.place(2), -2);
        x.stop(0);
        ask("a BRIDGE, OFF", x.place(0), -2);
    }

    @Sentence(in = "Promise 34", says = "or it is ON.")
    static void placeOneOn() {
        BusRanges x = nested();
        ask("on the HOST's BUS", x.place(4), -2);
        ask("behind two", x.place(3), -2);
        x.stop(3);
        ask("OFF", x.place(3), NONE);
    }

    @Sentence(in = "Promise 35", says = "The ENDPOINT of most units of a KIND, ON or OFF, of like ones the first by the WALK;")
    static void greediestFirst() {
        BusRanges x = new BusRanges();
        x.bridge(NONE, 1, 0, 128);
        endpoint(x, NONE, 7, 0, 3, 0, 3);
        endpoint(x, NONE, 2, 0, 3, 0, 2, 1, 8);
        ask("16 of 12", x.greediest(0), 1);
        ask("of KIND 1", x.greediest(1), 2);
        x.start(2);
        ask("ON or OFF", x.greediest(0), 1);
        endpoint(x, 0, 0, 0, 4);
        ask("of like ones the first", x.greediest(0), 3);
        endpoint(x, NONE, 0, 0, 4);
        ask("of like ones the first of all", x.greediest(0), 4);
        x.aperture(1, 0, 0);
        ask("one unit more", x.greediest(0), 1);
    }

    @Sentence(in = "Promise 35", says = "NONE if none has some,")
    static void greediestNone() {
        BusRanges x = new BusRanges();
        ask("of no DEVICES", x.greediest(0), NONE);
        x.bridge(NONE, 0, 3, 128);
        x.endpoint(NONE, 1);
        ask("without APERTURES", x.greediest(0), NONE);
        x.aperture(1, 1, 0);
        ask("of the other KIND alone", x.greediest(0), NONE);
        ask("one unit", x.greediest(1), 1);
    }

    @Sentence(in = "Promise 35", says = "or there is no such KIND.")
    static void greediestNoKind() {
        BusRanges x = nested();
        for (int kind : NO_KINDS) {
            ask("KIND " + kind, x.greediest(kind), NONE);
        }
    }

    /** SPACE 8: ENDPOINT 0 (2 units) at 0, 1 (2 units) at 2, both ON; 2 (4 units), OFF, for which there is room. */
    private static BusRanges changed() {
        BusRanges x = withSpace(8);
        endpoint(x, NONE, 0, 0, 1);
        endpoint(x, NONE, 1, 0, 1);
        x.start(0);
        x.start(1);
        endpoint(x, NONE, 2, 0, 2);
        return x;
    }

    @Sentence(in = "Promise 36", says = "What POWER-UP would do now, what 0: how many DEVICES would be ON,")
    static void wouldBeOn() {
        ask("of none", new BusRanges().would(0), 0);
        ask("all 20", full().would(0), 20);
        BusRanges x = changed();
        ask("one that is OFF, too", x.would(0), 3);
        x.aperture(2, 0, 0);
        ask("one too many", x.would(0), 2);
        ask("it is not done", x.about(2), 2);
        ask("but those without a number", crowdOfNumbers().would(0), 10);
    }

    @Sentence(in = "Promise 36", says = "1: how many APERTURES that are ON now would be ON at another BASE,")
    static void wouldMove() {
        BusRanges x = nested();
        ask("none", x.would(1), 0);
        x = changed();
        ask("two, behind one that is OFF", x.would(1), 2);
        x.aperture(2, 0, 0);
        ask("none, without that", x.would(1), 0);
        x = withSpace(4);
        endpoint(x, NONE, 0, 0, 2);
        x.start(0);
        endpoint(x, NONE, 1, 0, 1);
        ask("not one that would be OFF", x.would(1), 0);
    }

    @Sentence(in = "Promise 36", says = "2: how many DEVICES that are ON now would be OFF,")
    static void wouldBeOff() {
        BusRanges x = changed();
        ask("none", x.would(2), 0);
        x.aperture(2, 0, 0);
        ask("one that is OFF does not count", x.would(2), 0);
        x = withSpace(4);
        endpoint(x, NONE, 0, 0, 2);
        x.start(0);
        endpoint(x, NONE, 1, 0, 1);
        ask("one", x.would(2), 1);
        x = new BusRanges();
        x.bridge(NONE, 7, 0, 0);
        x.start(0);
        x.endpoint(0, 0);
        x.start(1);
        for (int slot = 0; slot < 7; slot++) {
            x.bridge(NONE, slot, 3, 0);
        }
        x.bridge(2, 0, 3, 0);
        ask("for want of a number, with one behind it", x.would(2), 2);
    }

    @Sentence(in = "Promise 36", says = "3: how many would be REFUSED;")
    static void wouldRefuse() {
        BusRanges x = changed();
        ask("none", x.would(3), 0);
        x.aperture(2, 0, 0);
        ask("one", x.would(3), 1);
        ask("now none is", x.about(5), 0);
        ask("not for want of a number", crowdOfNumbers().would(3), 0);
    }

    @Sentence(in = "Promise 36", says = "NONE for another what.")
    static void wouldWhat() {
        BusRanges x = nested();
        for (int what : new int[] {LEAST, -1, 4, MOST}) {
            ask("what " + what, x.would(what), NONE);
        }
    }

    @Sentence(in = "Promise 37", says = "The units of a KIND what 0: of ON ENDPOINTS,")
    static void unitsOn() {
        BusRanges x = nested();
        ask("KIND 0: 8, 32 and 4", x.units(0, 0), 44);
        ask("KIND 1: 4 and 64", x.units(1, 0), 68);
        x.stop(3);
        ask("without one that is OFF", x.units(0, 0), 12);
        x.stop(0);
        x.stop(4);
        ask("none", x.units(0, 0), 0);
        x = new BusRanges();
        endpoint(x, NONE, 0, 0, 3);
        x.start(0);
        ask("of DEVICE 0", x.units(0, 0), 8);
        endpoint(x, NONE, 1, 1, 6);
        endpoint(x, NONE, 2, 1, 0, 1, 0, 1, 0);
        x.start(1);
        x.start(2);
        ask("KIND 1: 64 and three of 1", x.units(1, 0), 67);
    }

    @Sentence(in = "Promise 37", says = "1: of THINGS on the HOST's BUS,")
    static void unitsOnTheHostsBus() {
        BusRanges x = nested();
        ask("KIND 0: 64 and 4", x.units(0, 1), 68);
        ask("KIND 1: 32 and 64", x.units(1, 1), 96);
        x.stop(3);
        ask("what is behind does not count", x.units(0, 1), 68);
        x.stop(4);
        ask("what is OFF does not", x.units(0, 1), 64);
        x.stop(0);
        ask("none", x.units(0, 1), 0);
    }

    @Sentence(in = "Promise 37", says = "2: of WINDOWS in all,")
    static void unitsOfWindows() {
        BusRanges x = nested();
        ask("KIND 0: 64 and 32", x.units(0, 2), 96);
        ask("KIND 1: 32 and 16", x.units(1, 2), 48);
        x.stop(2);
        ask("without one that is OFF", x.units(0, 2), 64);
        x.stop(0);
        ask("none", x.units(0, 2), 0);
    }

    @Sentence(in = "Promise 37", says = "3: of all ENDPOINTS;")
    static void unitsOfAll() {
        BusRanges x = nested();
        x.stop(0);
        ask("KIND 0, ON or OFF", x.units(0, 3), 44);
        ask("KIND 1, ON or OFF", x.units(1, 3), 68);
        endpoint(x, 2, 7, 0, 8, 0, 8, 0, 0);
        ask("more than there is SPACE", x.units(0, 3), 557);
        ask("of a new object", new BusRanges().units(0, 3), 0);
        x = new BusRanges();
        endpoint(x, NONE, 0, 0, 3);
        ask("of DEVICE 0", x.units(0, 3), 8);
    }

    @Sentence(in = "Promise 37", says = "NONE if there is no such KIND,")
    static void unitsNoKind() {
        BusRanges x = nested();
        for (int kind : NO_KINDS) {
            for (int what = 0; what < 4; what++) {
                ask("KIND " + kind + " what " + what, x.units(kind, what), NONE);
            }
        }
    }

    @Sentence(in = "Promise 37", says = "or for another what.")
    static void unitsWhat() {
        BusRanges x = nested();
        for (int what : new int[] {LEAST, -1, 4, MOST}) {
            ask("what " + what, x.units(0, what), NONE);
        }
    }

    @Sentence(in = "Promise 38", says = "How many THINGS of a KIND meet another one on their BUS, or are not within its WINDOW (the SPACE);")
    static void lawIsKept() {
        ask("no THINGS", new BusRanges().law(0), 0);
        BusRanges x = nested();
        ask("after POWER-UP", x.law(0), 0);
        ask("KIND 1 after POWER-UP", x.law(1), 0);
        x.gap(NONE, 1);
        ask("after another BUS was asked for", x.law(1), 0);
        x = rowOfTwos(4);
        ask("side by side, up to the end of the SPACE", x.law(0), 0);
        x = withSpace(32);
        x.bridge(NONE, 7, 0, 32);
        x.start(0);
        x.bridge(0, 0, 0, 0);
        endpoint(x, 0, 1, 0, 4, 0, 4);
        x.start(2);
        ask("up to the end of a WINDOW, which has all the SPACE", x.law(0), 0);
    }

    @Sentence(in = "Promise 38", says = "NONE if there is no such KIND.")
    static void lawNoKind() {
        BusRanges x = nested();
        for (int kind : NO_KINDS) {
            ask("KIND " + kind, x.law(kind), NONE);
        }
    }

    // ---- undo(), redo(), image(), back(), about() ----

    @Sentence(in = "Promise 39", says = "UNDO: true;")
    static void undoTrue() {
        BusRanges x = nested();
        ask("POWER-UP", x.undo(), true);
        ask("none is ON", x.about(2), 0);
        ask("an APERTURE", x.undo(), true);
        ask("it has one less", x.device(4, 4), 1);
        for (int acts = x.about(6); acts > 0; acts--) {
            ask("one more", x.undo(), true);
        }
        ask("nothing is left", x.about(0), 0);
    }

    @Sentence(in = "Promise 39", says = "false if there is none.")
    static void undoFalse() {
        BusRanges x = new BusRanges();
        ask("of a new object", x.undo(), false);
        x.endpoint(NONE, 8);
        ask("a refused one", x.undo(), false);
        x.endpoint(NONE, 0);
        x.undo();
        ask("taken back already", x.undo(), false);
        ask("that can be done again still", x.redo(), true);
        x.image(0);
        x.back(0);
        ask("after back()", x.undo(), false);
    }

    @Sentence(in = "Promise 40", says = "REDO: true;")
    static void redoTrue() {
        BusRanges x = nested();
        String due = told(x);
        int acts = x.about(6);
        for (int i = 0; i < acts; i++) {
            x.undo();
        }
        for (int i = 0; i < acts; i++) {
            ask("one of all", x.redo(), true);
        }
        unchanged(x, due);
    }

    @Sentence(in = "Promise 40", says = "false if there is none.")
    static void redoFalse() {
        BusRanges x = new BusRanges();
        ask("of a new object", x.redo(), false);
        x.endpoint(NONE, 0);
        ask("none was taken back", x.redo(), false);
        x.undo();
        x.endpoint(NONE, 1);
        ask("another ACT", x.redo(), false);
        ask("nothing is done", x.find(0, 0), NONE);
        x.undo();
        x.image(0);
        x.back(0);
        ask("after back()", x.redo(), false);
    }

    @Sentence(in = "Promise 41", says = "All that there is is kept in a BOX: how many DEVICES;")
    static void imageKept() {
        BusRanges x = nestedWithRedo();
        String before = told(x);
        ask("five", x.image(0), 5);
        unchanged(x, before);
        ask("of none", new BusRanges().image(1), 0);
        ask("of 20", full().image(0), 20);
        x.unplug(0);
        ask("over the one before", x.image(0), 1);
        x.unplug(4);
        ask("that is kept", x.back(0), 1);
    }

    @Sentence(in = "Promise 41", says = "NONE if there is none such.")
    static void imageNone() {
        BusRanges x = nested();
        for (int box : new int[] {LEAST, -1, 2, MOST}) {
            ask("BOX " + box, x.image(box), NONE);
        }
        ask("nothing was kept in BOX 0", x.back(0), NONE);
        ask("nor in BOX 1", x.back(1), NONE);
    }

    @Sentence(in = "Promise 42", says = "All is as it was kept (no ACTS are kept then): how many DEVICES;")
    static void backAsItWas() {
        BusRanges x = withSpace(68);
        x.bridge(NONE, 0, 2, 16);
        endpoint(x, 0, 7, 0, 5, 1, 0);
        endpoint(x, NONE, 1, 0, 4, 0, 4);
        ask("one is REFUSED", x.powerUp(), 2);
        String due = state(x);
        x.image(1);
        x.unplug(0);
        x.stop(2);
        x.space(0, 512);
        x.powerUp();
        x.undo();
        ask("how many", x.back(1), 3);
        ask("all is as it was, who was REFUSED, too", state(x).equals(due), true);
        Due.are("no ACTS are kept", new int[] {x.about(6), x.about(7)}, 0, 0);
        ask("none to be taken back", x.undo(), false);
        ask("nor to be done again", x.redo(), false);
        x.unplug(0);
        ask("an ACT after it", x.undo(), true);
        ask("all is as it was after back()", state(x).equals(due), true);
    }

    @Sentence(in = "Promise 42", says = "NONE, doing nothing, if nothing was,")
    static void backNothing() {
        BusRanges x = nestedWithRedo();
        String before = told(x);
        ask("BOX 0", x.back(0), NONE);
        ask("BOX 1", x.back(1), NONE);
        x.image(1);
        ask("BOX 0, when BOX 1 has all", x.back(0), NONE);
        unchanged(x, before);
        x = new BusRanges();
        x.image(0);
        x.endpoint(NONE, 0);
        ask("no DEVICES were kept", x.back(0), 0);
        ask("none are there", x.about(0), 0);
    }

    @Sentence(in = "Promise 42", says = "or there is no such BOX.")
    static void backNoBox() {
        BusRanges x = nestedWithRedo();
        x.image(0);
        x.image(1);
        String before = told(x);
        for (int box : new int[] {LEAST, -1, 2, MOST}) {
            ask("BOX " + box, x.back(box), NONE);
        }
        unchanged(x, before);
    }

    @Sentence(in = "Promise 43", says = "What 0: DEVICES, 1: BRIDGES, 2: DEVICES that are ON, 3: APERTURES that are ON,")
    static void aboutCounts() {
        BusRanges x = nested();
        x.bridge(NONE, 0, 0, 0);
        x.stop(3);
        Due.are("some", new int[] {x.about(0), x.about(1), x.about(2), x.about(3)}, 6, 3, 4, 3);
        x.stop(0);
        x.stop(4);
        Due.are("none is ON", new int[] {x.about(0), x.about(1), x.about(2), x.about(3)}, 6, 3, 0, 0);
        x = full();
        x.powerUp();
        Due.are("20", new int[] {x.about(0), x.about(1), x.about(2), x.about(3)}, 20, 4, 20, 0);
        x = new BusRanges();
        endpoint(x, NONE, 0, 0, 0, 1, 0, 0, 0);
        x.start(0);
        Due.are("DEVICE 0", new int[] {x.about(0), x.about(1), x.about(2), x.about(3)}, 1, 0, 1, 3);
    }

    @Sentence(in = "Promise 43", says = "4: the greatest first number of a RANGE of an ON BRIDGE (0: there is none),")
    static void aboutGreatest() {
        BusRanges x = new BusRanges();
        ask("there is none", x.about(4), 0);
        x.bridge(NONE, 0, 3, 0);
        ask("none is ON", x.about(4), 0);
        x.start(0);
        ask("the first of 1 .. 4", x.about(4), 1);
        x = crowdOfNumbers();
        ask("31", x.about(4), 31);
        x.stop(9);
        ask("of those that are ON", x.about(4), 30);
    }

    @Sentence(in = "Promise 43", says = "5: how many were REFUSED at the latest POWER-UP,")
    static void aboutRefused() {
        BusRanges x = withSpace(0);
        ask("before any", x.about(5), 0);
        endpoint(x, NONE, 0, 0, 0);
        endpoint(x, NONE, 1, 0, 0);
        x.powerUp();
        ask("two", x.about(5), 2);
        x.unplug(0);
        ask("unplugged since", x.about(5), 2);
        x.space(0, 1);
        ask("till the next", x.about(5), 2);
        x.powerUp();
        ask("none at the latest", x.about(5), 0);
        x.undo();
        ask("as it was", x.about(5), 2);
    }

    @Sentence(in = "Promise 43", says = "6: ACTS that can be taken back, 7: done again,")
    static void aboutActs() {
        BusRanges x = new BusRanges();
        for (int i = 1; i <= 22; i++) {
            x.space(0, i);
            ask("20 at most", x.about(6), Math.min(i, 20));
        }
        ask("none to be done again", x.about(7), 0);
        for (int i = 1; i <= 20; i++) {
            x.undo();
            Due.are("one taken back", new int[] {x.about(6), x.about(7)}, 20 - i, i);
        }
        x.undo();
        Due.are("none more", new int[] {x.about(6), x.about(7)}, 0, 20);
        x.redo();
        Due.are("one done again", new int[] {x.about(6), x.about(7)}, 1, 19);
        x.space(0, 2000);
        Due.are("a refused one", new int[] {x.about(6), x.about(7)}, 1, 19);
        x.space(0, 200);
        Due.are("another ACT", new int[] {x.about(6), x.about(7)}, 2, 0);
    }

    @Sentence(in = "Promise 43", says = "8, 9: SPACE of KIND 0, 1.")
    static void aboutSpace() {
        BusRanges x = new BusRanges();
        Due.are("at first", new int[] {x.about(8), x.about(9)}, 256, 256);
        x.space(0, 0);
        x.space(1, 1024);
        Due.are("least and most", new int[] {x.about(8), x.about(9)}, 0, 1024);
    }

    @Sentence(in = "Promise 43", says = "NONE for another what.")
    static void aboutWhat() {
        BusRanges x = nested();
        for (int what : new int[] {LEAST, -1, 10, MOST}) {
            ask("what " + what, x.about(what), NONE);
        }
    }
}
