/** Boundary cases that promises 1 to 13 name. What is due is worked out by hand from the document. */
final class BoundaryOfActs extends Trees {
    private static final int[] NO_DEVICES = {LEAST, -2, -1, 5, 19, 20, MOST};

    private BoundaryOfActs() {
    }

    @Sentence(in = "Promise 1", says = "No DEVICES are there.")
    static void newObject() {
        BusRanges x = new BusRanges();
        Due.are("nothing, and 256 units of each KIND", about(x), 0, 0, 0, 0, 0, 0, 0, 0, 256, 256);
        ask("none by the WALK", x.walk(0), NONE);
        ask("none by number", x.device(0, 0), -2);
        ask("none to be ON", x.powerUp(), 0);
        x.endpoint(NONE, 0);
        ask("nor in another new object", new BusRanges().about(0), 0);
    }

    // ---- endpoint() and bridge() ----

    @Sentence(in = "Promise 2", says = "An ENDPOINT is plugged in behind a BRIDGE (NONE: on the HOST's BUS), in a SLOT: its number;")
    static void endpointPlugged() {
        BusRanges x = new BusRanges();
        ask("on the HOST's BUS", x.endpoint(NONE, 7), 0);
        ask("behind none", x.device(0, 1), NONE);
        ask("in a SLOT", x.device(0, 2), 7);
        x.bridge(NONE, 0, 0, 0);
        ask("behind a BRIDGE", x.endpoint(1, 0), 2);
        ask("behind 1", x.device(2, 1), 1);
        ask("an ENDPOINT", x.device(2, 0), 0);
    }

    @Sentence(in = "Promise 2", says = "NONE, doing nothing, if there is no such BRIDGE,")
    static void endpointNoBridge() {
        BusRanges x = nestedWithRedo();
        String before = told(x);
        ask("an ENDPOINT", x.endpoint(1, 0), NONE);
        for (int at : new int[] {LEAST, -2, 5, 19, 20, MOST}) {
            ask("behind " + at, x.endpoint(at, 0), NONE);
        }
        unchanged(x, before);
    }

    @Sentence(in = "Promise 2", says = "SLOT,")
    static void endpointNoSlot() {
        BusRanges x = nestedWithRedo();
        String before = told(x);
        for (int slot : new int[] {LEAST, -1, 8, MOST}) {
            ask("SLOT " + slot, x.endpoint(NONE, slot), NONE);
            ask("SLOT " + slot + " behind a BRIDGE", x.endpoint(2, slot), NONE);
        }
        unchanged(x, before);
    }

    @Sentence(in = "Promise 2", says = "a DEVICE is there,")
    static void endpointTaken() {
        BusRanges x = nestedWithRedo();
        String before = told(x);
        ask("an ENDPOINT", x.endpoint(NONE, 5), NONE);
        ask("a BRIDGE", x.endpoint(0, 3), NONE);
        unchanged(x, before);
        x.stop(4);
        ask("one that is OFF", x.endpoint(NONE, 5), NONE);
    }

    @Sentence(in = "Promise 2", says = "it would be behind five BRIDGES,")
    static void endpointTooDeep() {
        BusRanges x = chain();
        x.space(0, 1);
        x.undo();
        String before = told(x);
        ask("behind five", x.endpoint(4, 0), NONE);
        unchanged(x, before);
        ask("behind four", x.endpoint(3, 1), 5);
    }

    @Sentence(in = "Promise 2", says = "or there are 20.")
    static void endpointTooMany() {
        BusRanges x = full();
        x.space(0, 1);
        x.undo();
        int[] before = about(x);
        ask("a 21st", x.endpoint(NONE, 7), NONE);
        Due.are("nothing is done", about(x), before);
        x.unplug(19);
        ask("a 20th", x.endpoint(NONE, 7), 19);
    }

    @Sentence(in = "Promise 3", says = "A BRIDGE likewise, which leaves NUMBERS, UNITS;")
    static void bridgeLikewise() {
        BusRanges x = new BusRanges();
        ask("most of both", x.bridge(NONE, 7, 3, 128), 0);
        ask("none of either", x.bridge(0, 0, 0, 0), 1);
        Due.are("NUMBERS, UNITS", new int[] {x.device(0, 5), x.device(0, 6), x.device(1, 5), x.device(1, 6)},
                3, 128, 0, 0);
        ask("behind an ENDPOINT", x.bridge(endpoint(x, NONE, 0), 0, 0, 0), NONE);
        ask("behind none", x.bridge(3, 0, 0, 0), NONE);
        ask("behind 20", x.bridge(20, 0, 0, 0), NONE);
        ask("SLOT 8", x.bridge(NONE, 8, 0, 0), NONE);
        ask("SLOT -1", x.bridge(NONE, -1, 0, 0), NONE);
        ask("taken", x.bridge(NONE, 7, 0, 0), NONE);
        ask("no ACTS", x.about(6), 3);
        ask("behind five", chain().bridge(4, 0, 0, 0), NONE);
        ask("behind four", chain().bridge(3, 1, 0, 0), 5);
        ask("a 21st", full().bridge(NONE, 7, 0, 0), NONE);
    }

    @Sentence(in = "Promise 3", says = "NONE, doing nothing, too, if it can't leave so many.")
    static void bridgeLeavesTooMany() {
        BusRanges x = nestedWithRedo();
        String before = told(x);
        for (int numbers : new int[] {LEAST, -1, 4, MOST}) {
            ask("NUMBERS " + numbers, x.bridge(NONE, 0, numbers, 0), NONE);
        }
        for (int units : new int[] {LEAST, -1, 129, MOST}) {
            ask("UNITS " + units, x.bridge(NONE, 0, 0, units), NONE);
        }
        unchanged(x, before);
    }

    // ---- aperture() ----

    @Sentence(in = "Promise 4", says = "An ENDPOINT that is OFF gets one more APERTURE, of a KIND, of 2 to the power of e units: its number;")
    static void apertureTold() {
        BusRanges x = new BusRanges();
        x.endpoint(NONE, 0);
        ask("the first", x.aperture(0, 1, 0), 0);
        x.start(0);
        x.stop(0);
        ask("the second, after it was ON", x.aperture(0, 0, 8), 1);
        Due.are("KIND and units", new int[] {x.bar(0, 0, 0), x.bar(0, 0, 1), x.bar(0, 1, 0), x.bar(0, 1, 1)},
                1, 1, 0, 256);
        x.unplug(0);
        x.endpoint(NONE, 0);
        ask("the first of another ENDPOINT", x.aperture(0, 0, 3), 0);
    }

    @Sentence(in = "Promise 4", says = "NONE, doing nothing, if there is no such ENDPOINT,")
    static void apertureNoEndpoint() {
        BusRanges x = nestedWithRedo();
        x.stop(0);
        x.undo();
        String before = told(x);
        for (int device : NO_DEVICES) {
            ask("of " + device, x.aperture(device, 0, 0), NONE);
        }
        ask("of a BRIDGE that is ON", x.aperture(0, 0, 0), NONE);
        unchanged(x, before);
        x.stop(0);
        ask("of a BRIDGE that is OFF", x.aperture(0, 0, 0), NONE);
    }

    @Sentence(in = "Promise 4", says = "it is ON,")
    static void apertureOfOneOn() {
        BusRanges x = nestedWithRedo();
        String before = told(x);
        ask("with one", x.aperture(1, 0, 0), NONE);
        unchanged(x, before);
        x.stop(1);
        ask("OFF", x.aperture(1, 0, 0), 1);
    }

    @Sentence(in = "Promise 4", says = "it has three,")
    static void apertureFourth() {
        BusRanges x = new BusRanges();
        endpoint(x, NONE, 0, 0, 0, 1, 1);
        ask("the third", x.aperture(0, 0, 2), 2);
        x.space(0, 1);
        x.undo();
        String before = told(x);
        ask("a fourth", x.aperture(0, 1, 3), NONE);
        unchanged(x, before);
    }

    @Sentence(in = "Promise 4", says = "or there is no such KIND, e.")
    static void apertureNoKind() {
        BusRanges x = new BusRanges();
        x.endpoint(NONE, 0);
        x.space(0, 1);
        x.undo();
        String before = told(x);
        for (int kind : new int[] {LEAST, -1, 2, MOST}) {
            ask("KIND " + kind, x.aperture(0, kind, 0), NONE);
        }
        for (int e : new int[] {LEAST, -1, 9, 31, 32, MOST}) {
            ask("e " + e, x.aperture(0, 0, e), NONE);
        }
        unchanged(x, before);
    }

    // ---- unplug(), shift(), space() ----

    @Sentence(in = "Promise 5", says = "A DEVICE is unplugged, with what is behind it: how many DEVICES;")
    static void unplugged() {
        BusRanges x = nested();
        ask("one alone, ON", x.unplug(4), 1);
        ask("what it had is free", x.gap(NONE, 0), 192);
        ask("with one behind it", x.unplug(2), 2);
        Due.are("who is left", walk(x), 0, 1);
        x.undo();
        ask("all of three levels", x.unplug(0), 4);
        ask("none is left", x.about(0), 0);
        ask("none is ON", x.about(2), 0);
        ask("20", fullChain().unplug(0), 20);
    }

    /** BRIDGE 0, all others behind it. */
    private static BusRanges fullChain() {
        BusRanges x = chain();
        for (int i = 5; i < 20; i++) {
            x.endpoint((i - 5) / 7, 1 + (i - 5) % 7);
        }
        return x;
    }

    @Sentence(in = "Promise 5", says = "NONE if there is none such.")
    static void unplugNone() {
        BusRanges x = nestedWithRedo();
        String before = told(x);
        for (int device : NO_DEVICES) {
            ask("of " + device, x.unplug(device), NONE);
        }
        unchanged(x, before);
        x.unplug(3);
        ask("again", x.unplug(3), NONE);
    }

    @Sentence(in = "Promise 6", says = "A DEVICE that is OFF is plugged in elsewhere, with what is behind it, as in endpoint(): true;")
    static void shifted() {
        BusRanges x = nested();
        x.stop(0);
        ask("a BRIDGE to the HOST's BUS", x.shift(2, NONE, 0), true);
        Due.are("with what is behind it", walk(x), 2, 3, 0, 1, 4);
        ask("behind what it was behind, elsewhere", x.shift(2, 0, 7), true);
        ask("on its own BUS", x.shift(2, 0, 0), true);
        ask("the SLOT it had is free", x.shift(1, 0, 7), true);
        Due.are("what they have goes with them", new int[] {x.device(0, 6), x.bar(3, 0, 1), x.bar(3, 1, 0)}, 16, 32, 1);
        x.start(0);
        ask("behind an ON BRIDGE", x.shift(1, 0, 6), true);
        ask("it stays OFF", x.device(1, 3), 0);
    }

    @Sentence(in = "Promise 6", says = "false, doing nothing, if there is none such,")
    static void shiftNone() {
        BusRanges x = nestedWithRedo();
        String before = told(x);
        for (int device : NO_DEVICES) {
            ask("of " + device, x.shift(device, NONE, 0), false);
        }
        unchanged(x, before);
    }

    @Sentence(in = "Promise 6", says = "it is ON,")
    static void shiftOneOn() {
        BusRanges x = nestedWithRedo();
        String before = told(x);
        ask("an ENDPOINT", x.shift(4, NONE, 0), false);
        ask("a BRIDGE", x.shift(2, NONE, 0), false);
        unchanged(x, before);
        x.stop(4);
        ask("OFF", x.shift(4, NONE, 0), true);
    }

    @Sentence(in = "Promise 6", says = "that place is not there,")
    static void shiftNowhere() {
        BusRanges x = offWithRedo();
        String before = told(x);
        for (int slot : new int[] {LEAST, -1, 8, MOST}) {
            ask("SLOT " + slot, x.shift(1, NONE, slot), false);
        }
        for (int at : new int[] {LEAST, -2, 5, 19, 20, MOST}) {
            ask("behind " + at, x.shift(1, at, 0), false);
        }
        ask("behind an ENDPOINT", x.shift(1, 4, 0), false);
        ask("behind itself, an ENDPOINT", x.shift(1, 1, 0), false);
        unchanged(x, before);
    }

    /** nested(), all OFF, and an ACT taken back. */
    private static BusRanges offWithRedo() {
        BusRanges x = nested();
        x.stop(0);
        x.stop(4);
        x.space(0, 1);
        x.undo();
        return x;
    }

    @Sentence(in = "Promise 6", says = "is taken (by itself, too),")
    static void shiftTaken() {
        BusRanges x = offWithRedo();
        String before = told(x);
        ask("by another", x.shift(1, NONE, 5), false);
        ask("by the BRIDGE it is behind", x.shift(1, NONE, 2), false);
        ask("by itself, an ENDPOINT", x.shift(4, NONE, 5), false);
        ask("by itself, a BRIDGE", x.shift(2, 0, 3), false);
        unchanged(x, before);
    }

    @Sentence(in = "Promise 6", says = "is behind the DEVICE itself,")
    static void shiftBehindItself() {
        BusRanges x = offWithRedo();
        String before = told(x);
        ask("behind itself", x.shift(0, 0, 0), false);
        ask("behind what is behind itself", x.shift(0, 2, 5), false);
        unchanged(x, before);
        ask("behind another", x.shift(4, 2, 5), true);
    }

    @Sentence(in = "Promise 6", says = "or a DEVICE would be behind five BRIDGES.")
    static void shiftTooDeep() {
        BusRanges x = chain();
        x.bridge(NONE, 1, 0, 0);
        x.bridge(5, 0, 0, 0);
        x.endpoint(6, 0);
        x.space(0, 1);
        x.undo();
        String before = told(x);
        ask("itself", x.shift(5, 4, 0), false);
        ask("one behind it", x.shift(5, 3, 1), false);
        ask("one behind two", x.shift(5, 2, 1), false);
        unchanged(x, before);
        ask("behind four", x.shift(5, 1, 1), true);
        ask("that one", x.hops(7, 0), 3);
        ask("an ENDPOINT behind four", x.shift(7, 3, 7), true);
        ask("an ENDPOINT behind five", x.shift(7, 4, 0), false);
        x = chain();
        x.bridge(NONE, 1, 0, 0);
        x.bridge(5, 0, 0, 0);
        x.bridge(6, 0, 0, 0);
        ask("from behind one to behind three", x.shift(6, 2, 1), true);
        ask("from behind three to behind four", x.shift(6, 3, 1), false);
        ask("that behind it", x.device(7, 1), 6);
        x = new BusRanges();
        x.endpoint(NONE, 0);
        for (int i = 0; i < 5; i++) {
            x.bridge(i < 2 ? NONE : i, 1 + i, 0, 0);
        }
        x.shift(0, 1, 0);
        ask("DEVICE 0 would be", x.shift(1, 5, 0), false);
        ask("DEVICE 0 would not", x.shift(1, 4, 0), true);
    }

    @Sentence(in = "Promise 7", says = "The SPACE of a KIND: true;")
    static void spaceSet() {
        BusRanges x = new BusRanges();
        ask("0 of KIND 0", x.space(0, 0), true);
        ask("1,024 of KIND 1", x.space(1, 1024), true);
        Due.are("of each KIND", new int[] {x.about(8), x.about(9)}, 0, 1024);
        ask("as it was, too", x.space(1, 1024), true);
        ask("an ACT", x.about(6), 3);
        x.endpoint(NONE, 0);
        ask("where one is OFF", x.space(1, 17), true);
    }

    @Sentence(in = "Promise 7", says = "false, doing nothing, if there is no such KIND,")
    static void spaceNoKind() {
        BusRanges x = offWithRedo();
        String before = told(x);
        for (int kind : new int[] {LEAST, -1, 2, MOST}) {
            ask("KIND " + kind, x.space(kind, 8), false);
        }
        unchanged(x, before);
    }

    @Sentence(in = "Promise 7", says = "size,")
    static void spaceNoSize() {
        BusRanges x = offWithRedo();
        String before = told(x);
        for (int size : new int[] {LEAST, -1, 1025, MOST}) {
            ask("size " + size, x.space(0, size), false);
            ask("size " + size + " of KIND 1", x.space(1, size), false);
        }
        unchanged(x, before);
    }

    @Sentence(in = "Promise 7", says = "or a DEVICE is ON.")
    static void spaceOneOn() {
        BusRanges x = offWithRedo();
        x.start(0);
        x.start(1);
        x.undo();
        String before = told(x);
        ask("a BRIDGE", x.space(0, 512), false);
        ask("of KIND 1, too", x.space(1, 512), false);
        unchanged(x, before);
        x.stop(0);
        x.start(4);
        ask("an ENDPOINT", x.space(0, 512), false);
        x.stop(4);
        ask("none", x.space(0, 512), true);
    }

    // ---- powerUp() and refused() ----

    @Sentence(in = "Promise 8", says = "POWER-UP: how many DEVICES are ON then.")
    static void powerUpCounts() {
        ask("of none", new BusRanges().powerUp(), 0);
        ask("of all 20", full().powerUp(), 20);
        BusRanges x = nested();
        ask("again", x.powerUp(), 5);
        x.stop(0);
        ask("after STOP", x.powerUp(), 5);
        x = withSpace(1);
        endpoint(x, NONE, 0, 0, 0);
        endpoint(x, NONE, 1, 0, 1);
        ask("without a REFUSED one", x.powerUp(), 1);
        x = crowdOfNumbers();
        ask("without one that has no number", x.powerUp(), 10);
    }

    /** ENDPOINTS 0 (1 unit) and 1 (2 units), both REFUSED for want of SPACE. */
    private static BusRanges twoRefused() {
        BusRanges x = withSpace(0);
        endpoint(x, NONE, 0, 0, 0);
        endpoint(x, NONE, 1, 0, 1);
        x.powerUp();
        return x;
    }

    @Sentence(in = "Promise 9", says = "The i-th that was REFUSED at the latest POWER-UP")
    static void refusedInOrder() {
        BusRanges x = twoRefused();
        ask("the first", x.refused(0), 1);
        ask("the second", x.refused(1), 0);
        x.space(0, 1);
        ask("till another POWER-UP", x.refused(1), 0);
        x.powerUp();
        ask("the latest", x.refused(0), 1);
        ask("one alone", x.refused(1), NONE);
        x.would(3);
        x.stop(0);
        x.space(0, 3);
        x.powerUp();
        ask("none", x.refused(0), NONE);
    }

    @Sentence(in = "Promise 9", says = "(unplugged or started since, or not);")
    static void refusedSince() {
        BusRanges x = twoRefused();
        x.unplug(1);
        ask("unplugged", x.refused(0), 1);
        x.endpoint(NONE, 7);
        ask("another of its number", x.refused(0), 1);
        x.space(0, 8);
        x.start(0);
        ask("started", x.refused(1), 0);
        ask("two still", x.about(5), 2);
    }

    @Sentence(in = "Promise 9", says = "NONE if there is none such.")
    static void refusedNone() {
        ask("before any POWER-UP", new BusRanges().refused(0), NONE);
        BusRanges x = twoRefused();
        for (int i : new int[] {LEAST, -1, 2, 19, 20, MOST}) {
            ask("the one of " + i, x.refused(i), NONE);
        }
    }

    // ---- start() and stop() ----

    @Sentence(in = "Promise 10", says = "START: how many APERTURES it has;")
    static void startEndpoint() {
        BusRanges x = withSpace(3);
        endpoint(x, NONE, 0);
        endpoint(x, NONE, 1, 1, 8);
        endpoint(x, NONE, 2, 0, 0, 0, 0, 0, 0);
        ask("none", x.start(0), 0);
        ask("it is ON", x.device(0, 3), 1);
        ask("one, all there is", x.start(1), 1);
        ask("three, all there is", x.start(2), 3);
        Due.are("laid", bases(x, 2), 0, 1, 2);
    }

    @Sentence(in = "Promise 10", says = "of a BRIDGE its first number.")
    static void startBridge() {
        BusRanges x = crowdOfNumbers();
        x.stop(9);
        ask("the last", x.start(9), 31);
        x.stop(7);
        x.stop(0);
        ask("the first", x.start(0), 1);
        ask("one behind 28", x.start(7), 29);
    }

    @Sentence(in = "Promise 10", says = "Doing nothing: NONE if there is no such DEVICE,")
    static void startNone() {
        BusRanges x = nestedWithRedo();
        String before = told(x);
        for (int device : NO_DEVICES) {
            ask("of " + device, x.start(device), NONE);
        }
        unchanged(x, before);
    }

    @Sentence(in = "Promise 10", says = "or it is ON;")
    static void startOneOn() {
        BusRanges x = nestedWithRedo();
        String before = told(x);
        ask("an ENDPOINT", x.start(3), NONE);
        ask("a BRIDGE", x.start(0), NONE);
        unchanged(x, before);
    }

    @Sentence(in = "Promise 10", says = "else -2 if its BUS is not ON;")
    static void startBusOff() {
        BusRanges x = offWithRedo();
        endpoint(x, 2, 7, 0, 8, 0, 8);
        x.undo();
        String before = told(x);
        ask("behind one", x.start(1), -2);
        ask("behind two", x.start(3), -2);
        ask("a BRIDGE", x.start(2), -2);
        unchanged(x, before);
        x.start(0);
        ask("the inner BUS still", x.start(3), -2);
    }

    @Sentence(in = "Promise 10", says = "else -3 if there is no number;")
    static void startNoNumber() {
        BusRanges x = new BusRanges();
        x.bridge(NONE, 0, 0, 0);
        x.bridge(0, 0, 0, 128);
        x.start(0);
        x.stop(0);
        x.undo();
        String before = told(x);
        ask("nor room", x.start(1), -3);
        unchanged(x, before);
        x = crowdOfNumbers();
        ask("up to 31 none", x.start(10), -3);
        x = new BusRanges();
        for (int i = 0; i < 8; i++) {
            x.bridge(NONE, i, 3, 0);
        }
        x.bridge(0, 0, 3, 0);
        x.powerUp();
        ask("none of the HOST's", x.start(7), -3);
    }

    @Sentence(in = "Promise 10", says = "else -4 if there is no room.")
    static void startNoRoom() {
        BusRanges x = withSpace(20);
        endpoint(x, NONE, 0, 0, 2, 0, 4);
        endpoint(x, NONE, 1, 0, 2, 0, 4, 0, 0);
        x.bridge(NONE, 2, 0, 1);
        x.start(0);
        x.stop(0);
        x.undo();
        String before = told(x);
        ask("an ENDPOINT", x.start(1), -4);
        ask("a BRIDGE, which would have a number", x.start(2), -4);
        unchanged(x, before);
        x.stop(0);
        ask("one unit too many", x.start(1), -4);
        ask("just as many", x.start(0), 2);
        x = new BusRanges();
        x.space(1, 1);
        endpoint(x, NONE, 0, 0, 0, 1, 1);
        ask("of KIND 1 alone there is none", x.start(0), -4);
        Due.are("no BASE of KIND 0 then", bases(x, 0), NONE, NONE);
        x.bridge(NONE, 1, 0, 16);
        ask("of KIND 1 alone none for a WINDOW", x.start(1), -4);
        ask("none of KIND 0 then", x.gap(NONE, 0), 256);
        ask("nor a number", x.spare(NONE), 31);
    }

    @Sentence(in = "Promise 11", says = "STOP: how many DEVICES go OFF;")
    static void stopCounts() {
        BusRanges x = nested();
        ask("an ENDPOINT", x.stop(3), 1);
        ask("what is OFF already does not count", x.stop(0), 3);
        ask("the last", x.stop(4), 1);
        ask("none is ON", x.about(2), 0);
        x = full();
        x.powerUp();
        ask("with eight behind it", x.stop(0), 9);
        ask("with none behind it", x.stop(3), 1);
    }

    @Sentence(in = "Promise 11", says = "NONE, doing nothing, if there is no such DEVICE,")
    static void stopNone() {
        BusRanges x = nestedWithRedo();
        String before = told(x);
        for (int device : NO_DEVICES) {
            ask("of " + device, x.stop(device), NONE);
        }
        unchanged(x, before);
    }

    @Sentence(in = "Promise 11", says = "or it is OFF.")
    static void stopOneOff() {
        BusRanges x = offWithRedo();
        String before = told(x);
        for (int device = 0; device < 5; device++) {
            ask("of " + device, x.stop(device), NONE);
        }
        unchanged(x, before);
    }

    // ---- rebalance() and moves() ----

    /** Twos at 2 and 6 of 0 .. 7 (ENDPOINTS 1 and 3); ENDPOINT 4 of 4 units would need one of them to move. */
    private static BusRanges oneMustMove() {
        BusRanges x = rowOfTwos(4);
        x.stop(0);
        x.stop(2);
        endpoint(x, NONE, 7, 0, 2);
        return x;
    }

    @Sentence(in = "Promise 12", says = "REBALANCE is done, the ENDPOINT is ON then: how many APERTURES are moved.")
    static void rebalanceDone() {
        BusRanges x = oneMustMove();
        ask("one", x.rebalance(4), 1);
        ask("it is ON", x.device(4, 3), 1);
        Due.are("laid", bases(x, 4), 0);
        Due.are("moved", bases(x, 1), 4);
        Due.are("not moved", bases(x, 3), 6);
        ask("one ACT", x.undo(), true);
        Due.are("as it was", bases(x, 1), 2);
        ask("none, where there is room", x.rebalance(0), 0);
        x.endpoint(NONE, 6);
        ask("none, where it has none itself", x.rebalance(5), 0);
        ask("it is ON, too", x.device(5, 3), 1);
    }

    @Sentence(in = "Promise 12", says = "Doing nothing: NONE if there is no such ENDPOINT,")
    static void rebalanceNone() {
        BusRanges x = offWithRedo();
        String before = told(x);
        for (int device : NO_DEVICES) {
            ask("of " + device, x.rebalance(device), NONE);
        }
        ask("a BRIDGE on an ON BUS", x.rebalance(0), NONE);
        ask("a BRIDGE on an OFF BUS", x.rebalance(2), NONE);
        unchanged(x, before);
    }

    @Sentence(in = "Promise 12", says = "or it is ON;")
    static void rebalanceOneOn() {
        BusRanges x = nestedWithRedo();
        String before = told(x);
        ask("on the HOST's BUS", x.rebalance(4), NONE);
        ask("behind two", x.rebalance(3), NONE);
        unchanged(x, before);
    }

    @Sentence(in = "Promise 12", says = "else -2 if its BUS is not ON;")
    static void rebalanceBusOff() {
        BusRanges x = offWithRedo();
        String before = told(x);
        ask("behind one", x.rebalance(1), -2);
        ask("behind two, and without room", x.rebalance(3), -2);
        unchanged(x, before);
    }

    @Sentence(in = "Promise 12", says = "else -4 if there is no such way.")
    static void rebalanceNoWay() {
        BusRanges x = oneMustMove();
        x.aperture(4, 0, 0);
        x.stop(1);
        x.undo();
        String before = told(x);
        ask("5 units, where 4 are free", x.rebalance(4), -4);
        unchanged(x, before);
        x = withSpace(8);
        endpoint(x, NONE, 0, 0, 2);
        endpoint(x, NONE, 1, 0, 4);
        x.start(0);
        ask("more than the SPACE", x.rebalance(1), -4);
        ask("a WINDOW that is not there", withoutWindow().rebalance(1), -4);
    }

    private static BusRanges withoutWindow() {
        BusRanges x = new BusRanges();
        x.bridge(NONE, 0, 0, 0);
        endpoint(x, 0, 0, 1, 0);
        x.start(0);
        return x;
    }

    @Sentence(in = "Promise 13", says = "How many APERTURES would be moved by rebalance(): likewise.")
    static void movesLikewise() {
        BusRanges x = oneMustMove();
        ask("one", x.moves(4), 1);
        ask("none", x.moves(0), 0);
        ask("one that is ON", x.moves(1), NONE);
        for (int device : NO_DEVICES) {
            ask("of " + device, x.moves(device), NONE);
        }
        x.aperture(4, 0, 0);
        ask("no way", x.moves(4), -4);
        x = offWithRedo();
        ask("a BRIDGE on an ON BUS", x.moves(0), NONE);
        ask("a BRIDGE on an OFF BUS", x.moves(2), NONE);
        ask("its BUS is OFF", x.moves(1), -2);
    }

    @Sentence(in = "Promise 13", says = "(Nothing is done.)")
    static void movesDoesNothing() {
        BusRanges x = oneMustMove();
        x.stop(3);
        x.undo();
        String before = told(x);
        x.moves(4);
        x.moves(0);
        x.moves(9);
        unchanged(x, before);
    }
}
