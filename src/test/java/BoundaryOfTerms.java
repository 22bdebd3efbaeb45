/** Boundary cases that the Terms name. What is due is worked out by hand from the document. */
final class BoundaryOfTerms extends Trees {
    private BoundaryOfTerms() {
    }

    // ---- Terms 1 ----

    @Sentence(in = "Terms 1", says = "At most 20 DEVICES (0 .. 19;")
    static void twentyDevices() {
        BusRanges x = new BusRanges();
        for (int i = 0; i < 20; i++) {
            ask("DEVICE " + i, x.bridge(i < 8 ? NONE : i % 8, i < 8 ? i : i / 8, 0, 0), i);
        }
        ask("a 21st, an ENDPOINT", x.endpoint(0, 0), NONE);
        ask("a 21st, a BRIDGE", x.bridge(0, 0, 0, 0), NONE);
        ask("there are 20", x.about(0), 20);
        ask("19 is there", x.device(19, 0), 1);
        ask("20 is not", x.device(20, 0), -2);
        x.unplug(19);
        ask("there are 19", x.about(0), 19);
        ask("one more", x.endpoint(0, 0), 19);
    }

    @Sentence(in = "Terms 1", says = "a new one is the lowest that is not there),")
    static void lowestNumber() {
        BusRanges x = new BusRanges();
        for (int slot = 0; slot < 6; slot++) {
            x.endpoint(NONE, slot);
        }
        x.unplug(4);
        x.unplug(1);
        ask("the lowest", x.bridge(NONE, 7, 0, 0), 1);
        ask("the next that is not there", x.endpoint(1, 0), 4);
        ask("behind all that are there", x.endpoint(1, 1), 6);
        x.unplug(0);
        ask("0 again", x.bridge(1, 2, 0, 0), 0);
        x.unplug(1);
        ask("of four that went the lowest", x.endpoint(NONE, 7), 0);
    }

    @Sentence(in = "Terms 1", says = "each plugged into a SLOT (0 .. 7) of a BUS: that of the HOST, or one behind a BRIDGE;")
    static void slots() {
        BusRanges x = new BusRanges();
        ask("SLOT 0 of the HOST's", x.bridge(NONE, 0, 0, 0), 0);
        ask("SLOT 7 of the HOST's", x.endpoint(NONE, 7), 1);
        ask("SLOT 8 of the HOST's", x.endpoint(NONE, 8), NONE);
        ask("SLOT -1 of the HOST's", x.bridge(NONE, -1, 0, 0), NONE);
        ask("SLOT 0 behind a BRIDGE", x.endpoint(0, 0), 2);
        ask("SLOT 7 behind a BRIDGE", x.bridge(0, 7, 0, 0), 3);
        ask("SLOT 8 behind a BRIDGE", x.bridge(0, 8, 0, 0), NONE);
        ask("SLOT -1 behind a BRIDGE", x.endpoint(0, -1), NONE);
        ask("a SLOT behind none", x.endpoint(4, 1), NONE);
    }

    @Sentence(in = "Terms 1", says = "one in a SLOT;")
    static void oneInASlot() {
        BusRanges x = new BusRanges();
        x.bridge(NONE, 3, 0, 0);
        ask("an ENDPOINT over a BRIDGE", x.endpoint(NONE, 3), NONE);
        ask("a BRIDGE over a BRIDGE", x.bridge(NONE, 3, 0, 0), NONE);
        ask("the same SLOT of another BUS", x.endpoint(0, 3), 1);
        ask("a BRIDGE over an ENDPOINT", x.bridge(0, 3, 0, 0), NONE);
        ask("the one that was there", x.find(0, 3), 0);
    }

    @Sentence(in = "Terms 1", says = "behind at most four BRIDGES (one on the HOST's BUS is behind none).")
    static void behindFour() {
        BusRanges x = new BusRanges();
        int at = NONE;
        for (int i = 0; i < 5; i++) {
            at = x.bridge(at, 0, 0, 0);
            ask("behind " + i, at, i);
        }
        ask("an ENDPOINT behind four", x.endpoint(3, 1), 5);
        ask("a BRIDGE behind four", x.bridge(3, 2, 0, 0), 6);
        ask("an ENDPOINT behind five", x.endpoint(4, 0), NONE);
        ask("a BRIDGE behind five", x.bridge(6, 0, 0, 0), NONE);
    }

    @Sentence(in = "Terms 1", says = "A DEVICE is an ENDPOINT, or a BRIDGE, behind which there is a BUS.")
    static void endpointOrBridge() {
        BusRanges x = new BusRanges();
        x.endpoint(NONE, 0);
        x.bridge(NONE, 1, 0, 0);
        ask("an ENDPOINT", x.device(0, 0), 0);
        ask("a BRIDGE", x.device(1, 0), 1);
        ask("no BUS behind an ENDPOINT", x.endpoint(0, 0), NONE);
        ask("whose NEED there is none of", x.need(0, 0), -2);
        ask("a BUS behind a BRIDGE", x.need(1, 0), 0);
        ask("into which one is plugged", x.endpoint(1, 0), 2);
    }

    @Sentence(in = "Terms 1", says = "The WALK goes through the HOST's BUS: SLOT by SLOT, from 0 on, each DEVICE,")
    static void walkBySlot() {
        BusRanges x = new BusRanges();
        ask("of none", x.walk(0), NONE);
        int[] slots = {6, 0, 7, 3};
        for (int slot : slots) {
            x.endpoint(NONE, slot);
        }
        Due.are("by SLOT, not by number", walk(x), 1, 3, 0, 2);
        ask("from 0 on", x.walk(0), 1);
        ask("the last", x.walk(3), 2);
        ask("behind it", x.walk(4), NONE);
    }

    @Sentence(in = "Terms 1", says = "a BRIDGE ahead of what is on the BUS behind it, which is gone through likewise ahead of the next SLOT.")
    static void walkIntoTheDepth() {
        BusRanges x = chain();
        x.endpoint(3, 1);
        x.endpoint(0, 7);
        x.endpoint(NONE, 1);
        Due.are("five deep, then back", walk(x), 0, 1, 2, 3, 4, 5, 6, 7);
        x.bridge(NONE, 2, 0, 0);
        x.endpoint(8, 5);
        x.endpoint(8, 2);
        x.endpoint(NONE, 3);
        ask("a BRIDGE", x.walk(8), 8);
        ask("the lowest SLOT behind it", x.walk(9), 10);
        ask("the other SLOT behind it", x.walk(10), 9);
        ask("then the next SLOT", x.walk(11), 11);
    }

    @Sentence(in = "Terms 1", says = "An ENDPOINT has up to three APERTURES (0 .. 2, as told),")
    static void threeApertures() {
        BusRanges x = new BusRanges();
        x.endpoint(NONE, 0);
        ask("none at first", x.device(0, 4), 0);
        ask("no APERTURE 0", x.bar(0, 0, 0), -2);
        ask("the first told", x.aperture(0, 0, 3), 0);
        ask("the second told", x.aperture(0, 1, 5), 1);
        ask("the third told", x.aperture(0, 0, 1), 2);
        ask("a fourth", x.aperture(0, 0, 0), NONE);
        ask("three", x.device(0, 4), 3);
        ask("0, as told", x.bar(0, 0, 1), 8);
        ask("1, as told", x.bar(0, 1, 1), 32);
        ask("2, as told", x.bar(0, 2, 1), 2);
        ask("no APERTURE 3", x.bar(0, 3, 1), -2);
    }

    @Sentence(in = "Terms 1", says = "each of a KIND (0, 1)")
    static void twoKinds() {
        BusRanges x = new BusRanges();
        x.endpoint(NONE, 0);
        ask("KIND -1", x.aperture(0, -1, 0), NONE);
        ask("KIND 2", x.aperture(0, 2, 0), NONE);
        ask("KIND 0", x.aperture(0, 0, 0), 0);
        ask("KIND 1", x.aperture(0, 1, 0), 1);
        ask("it is 0", x.bar(0, 0, 0), 0);
        ask("it is 1", x.bar(0, 1, 0), 1);
    }

    @Sentence(in = "Terms 1", says = "and of 1, 2, 4 .. 256 (2 to the power of 0 .. 8) units.")
    static void powersOfTwo() {
        BusRanges x = new BusRanges();
        int[] units = {1, 2, 4, 8, 16, 32, 64, 128, 256};
        for (int e = 0; e < 9; e++) {
            if (e % 3 == 0) {
                x.endpoint(NONE, e / 3);
            }
            ask("2 to the power of " + e, x.aperture(e / 3, 0, e), e % 3);
            ask("units", x.bar(e / 3, e % 3, 1), units[e]);
        }
        x.endpoint(NONE, 7);
        ask("2 to the power of 9", x.aperture(3, 0, 9), NONE);
        ask("2 to the power of -1", x.aperture(3, 0, -1), NONE);
        ask("2 to the power of 32", x.aperture(3, 0, 32), NONE);
    }

    @Sentence(in = "Terms 1", says = "A BRIDGE leaves NUMBERS (0 .. 3)")
    static void numbersLeft() {
        BusRanges x = new BusRanges();
        for (int numbers = 0; numbers < 4; numbers++) {
            ask("NUMBERS " + numbers, x.bridge(NONE, numbers, numbers, 0), numbers);
            ask("as told", x.device(numbers, 5), numbers);
        }
        ask("NUMBERS 4", x.bridge(NONE, 4, 4, 0), NONE);
        ask("NUMBERS -1", x.bridge(NONE, 4, -1, 0), NONE);
    }

    @Sentence(in = "Terms 1", says = "and UNITS (0 .. 128) for what may come.")
    static void unitsLeft() {
        BusRanges x = new BusRanges();
        int[] some = {0, 1, 127, 128};
        for (int i = 0; i < 4; i++) {
            ask("UNITS " + some[i], x.bridge(NONE, i, 0, some[i]), i);
            ask("as told", x.device(i, 6), some[i]);
        }
        ask("UNITS 129", x.bridge(NONE, 4, 0, 129), NONE);
        ask("UNITS -1", x.bridge(NONE, 4, 0, -1), NONE);
    }

    @Sentence(in = "Terms 1", says = "A DEVICE is ON or OFF (at first);")
    static void offAtFirst() {
        BusRanges x = new BusRanges();
        x.endpoint(NONE, 0);
        x.bridge(NONE, 1, 0, 0);
        ask("an ENDPOINT at first", x.device(0, 3), 0);
        ask("a BRIDGE at first", x.device(1, 3), 0);
        x.start(1);
        ask("ON", x.device(1, 3), 1);
        x.endpoint(1, 0);
        ask("behind an ON BRIDGE, at first", x.device(2, 3), 0);
        x.unplug(1);
        x.bridge(NONE, 1, 0, 0);
        ask("where one was ON, at first", x.device(1, 3), 0);
    }

    @Sentence(in = "Terms 1", says = "what is behind an OFF BRIDGE is OFF.")
    static void offBehindOff() {
        BusRanges x = nested();
        ask("it can't be ON behind an OFF one", x.start(3), NONE);
        x.stop(0);
        ask("a BRIDGE behind it", x.device(2, 3), 0);
        ask("an ENDPOINT behind that", x.device(3, 3), 0);
        ask("it can't be started", x.start(3), -2);
        ask("nor the BRIDGE", x.start(2), -2);
        x.undo();
        x.stop(2);
        ask("behind the inner one alone", x.device(3, 3), 0);
        ask("beside it", x.device(1, 3), 1);
    }

    @Sentence(in = "Terms 1", says = "An ON BRIDGE has a RANGE of BUS numbers, the first of which is that of the BUS behind it;")
    static void rangeOfABridge() {
        BusRanges x = new BusRanges();
        x.bridge(NONE, 0, 3, 0);
        x.endpoint(0, 0);
        ask("an OFF one has none", x.window(0, 0), -2);
        x.powerUp();
        Due.are("the RANGE", range(x, 0), 1, 4);
        ask("the BUS behind it", x.bus(1), 1);
        ask("found by it", x.find(1, 0), 1);
        ask("not by another of the RANGE", x.find(4, 0), NONE);
    }

    @Sentence(in = "Terms 1", says = "the HOST's is 0 .. 31.")
    static void rangeOfTheHost() {
        BusRanges x = crowdOfNumbers();
        ask("the HOST's BUS", x.bus(0), 0);
        ask("found by 0", x.find(0, 7), 7);
        ask("31 is a number", x.window(9, 0), 31);
        x.endpoint(9, 3);
        ask("found by 31", x.find(31, 3), 11);
        ask("32 is none", x.device(10, 3), 0);
        ask("all but 0 are spare in a new object", new BusRanges().spare(NONE), 31);
    }

    @Sentence(in = "Terms 1", says = "Of each KIND the HOST has a SPACE from 0 on (0 .. 1,024 units; 256 at first),")
    static void spaceOfTheHost() {
        BusRanges x = new BusRanges();
        ask("KIND 0 at first", x.about(8), 256);
        ask("KIND 1 at first", x.about(9), 256);
        ask("as many units", x.gap(NONE, 1), 256);
        ask("0 units", x.space(0, 0), true);
        ask("none are there", x.gap(NONE, 0), 0);
        ask("1,024 units", x.space(0, 1024), true);
        ask("all are there", x.fill(NONE, 0, 0), 1024);
        ask("1,025 units", x.space(0, 1025), false);
        ask("-1 units", x.space(0, -1), false);
        endpoint(x, NONE, 0, 0, 0);
        x.start(0);
        Due.are("from 0 on", bases(x, 0), 0);
    }

    @Sentence(in = "Terms 1", says = "an ON BRIDGE a WINDOW, or none,")
    static void windowOrNone() {
        BusRanges x = new BusRanges();
        x.bridge(NONE, 0, 0, 0);
        x.bridge(NONE, 1, 0, 1);
        endpoint(x, 0, 0, 1, 0);
        x.powerUp();
        Due.are("none of KIND 0, one of KIND 1", window(x, 0), 1, 1, NONE, 0, 0, 16);
        Due.are("one of each", window(x, 1), 2, 2, 0, 16, 16, 16);
        x.stop(1);
        ask("an OFF one", x.window(1, 2), -2);
    }

    @Sentence(in = "Terms 1", says = "each APERTURE of an ON ENDPOINT a BASE.")
    static void baseIfOn() {
        BusRanges x = new BusRanges();
        endpoint(x, NONE, 0, 0, 0, 1, 8, 0, 2);
        Due.are("OFF", bases(x, 0), NONE, NONE, NONE);
        x.powerUp();
        Due.are("ON", bases(x, 0), 4, 0, 0);
        x.stop(0);
        Due.are("OFF again", bases(x, 0), NONE, NONE, NONE);
    }

    // ---- Terms 2: POWER-UP ----

    @Sentence(in = "Terms 2", says = "POWER-UP: all are OFF; then:")
    static void allAreOff() {
        BusRanges x = withSpace(4);
        endpoint(x, NONE, 0, 0, 2);
        endpoint(x, NONE, 1, 0, 1);
        x.start(0);
        ask("one that was ON is REFUSED", x.powerUp(), 1);
        ask("it is OFF", x.device(0, 3), 0);
        Due.are("its room is another's", bases(x, 1), 0);
        x = new BusRanges();
        x.bridge(NONE, 7, 0, 0);
        ask("a number by START", x.start(0), 1);
        for (int slot = 0; slot < 7; slot++) {
            x.bridge(NONE, slot, 3, 0);
        }
        x.bridge(1, 0, 3, 0);
        ask("numbers are given anew", x.powerUp(), 8);
        ask("for this one there is none then", x.device(0, 3), 0);
    }

    @Sentence(in = "Terms 2", says = "(a) By the WALK each BRIDGE gets as first number the next one (1 at first);")
    static void firstNumbers() {
        BusRanges x = new BusRanges();
        x.bridge(NONE, 3, 0, 0);
        x.bridge(NONE, 0, 0, 0);
        x.bridge(0, 5, 0, 0);
        x.bridge(0, 1, 0, 0);
        x.powerUp();
        ask("the first by the WALK", x.window(1, 0), 1);
        ask("the second", x.window(0, 0), 2);
        ask("the first behind it", x.window(3, 0), 3);
        ask("the next behind it", x.window(2, 0), 4);
        x.stop(1);
        x.unplug(1);
        x.powerUp();
        ask("1 at first again", x.window(0, 0), 1);
        ask("the last then", x.window(2, 0), 3);
    }

    @Sentence(in = "Terms 2", says = "when all behind it have theirs, its RANGE ends with the last that was given so far (the last of all RANGES so far;")
    static void rangeEndsWithTheLast() {
        BusRanges x = new BusRanges();
        x.bridge(NONE, 0, 0, 0);
        x.bridge(0, 0, 2, 0);
        x.bridge(1, 0, 1, 0);
        x.powerUp();
        Due.are("the innermost", range(x, 2), 3, 4);
        Due.are("the middle one: 2 more than that", range(x, 1), 2, 6);
        Due.are("the outmost: with that", range(x, 0), 1, 6);
        x.bridge(0, 1, 0, 0);
        x.powerUp();
        Due.are("one more behind it", range(x, 3), 7, 7);
        Due.are("with the last of all", range(x, 0), 1, 7);
    }

    @Sentence(in = "Terms 2", says = "its own first number, if there are none behind it),")
    static void rangeOfOneNumber() {
        BusRanges x = new BusRanges();
        x.bridge(NONE, 0, 0, 0);
        x.bridge(NONE, 1, 0, 0);
        x.endpoint(1, 0);
        x.powerUp();
        Due.are("nothing behind it", range(x, 0), 1, 1);
        Due.are("an ENDPOINT behind it", range(x, 1), 2, 2);
        x = crowdOfNumbers();
        x.bridge(9, 0, 0, 0);
        x.powerUp();
        Due.are("one without a number behind it", range(x, 9), 31, 31);
        ask("that one", x.device(11, 3), 0);
    }

    @Sentence(in = "Terms 2", says = "and as many more as it leaves NUMBERS, 31 at most;")
    static void rangeWithNumbersLeft() {
        BusRanges x = new BusRanges();
        for (int numbers = 0; numbers < 4; numbers++) {
            x.bridge(NONE, numbers, numbers, 0);
        }
        x.powerUp();
        Due.are("none more", range(x, 0), 1, 1);
        Due.are("one more", range(x, 1), 2, 3);
        Due.are("two more", range(x, 2), 4, 6);
        Due.are("three more", range(x, 3), 7, 10);
        x = crowdOfNumbers();
        Due.are("from 31 on", range(x, 9), 31, 31);
        Due.are("from 30 on", range(x, 8), 30, 31);
        Due.are("from 29 on", range(x, 7), 29, 31);
        Due.are("just below", range(x, 6), 25, 28);
        x.unplug(8);
        x.unplug(7);
        x.bridge(NONE, 7, 2, 0);
        x.powerUp();
        Due.are("just 31", range(x, 7), 29, 31);
    }

    @Sentence(in = "Terms 2", says = "the next one is that behind.")
    static void nextNumber() {
        BusRanges x = new BusRanges();
        x.bridge(NONE, 0, 3, 0);
        x.bridge(NONE, 1, 1, 0);
        x.bridge(1, 0, 2, 0);
        x.bridge(NONE, 2, 0, 0);
        x.powerUp();
        ask("behind 1 .. 4", x.window(1, 0), 5);
        ask("behind a first number", x.window(2, 0), 6);
        ask("behind 5 .. 9", x.window(3, 0), 10);
    }

    @Sentence(in = "Terms 2", says = "One for which the next one is above 31 stays OFF, with what is behind it (nothing of it is numbered).")
    static void noNumberLeft() {
        BusRanges x = new BusRanges();
        for (int i = 0; i < 8; i++) {
            x.bridge(NONE, i, i == 6 ? 2 : 3, 0);
        }
        x.bridge(0, 0, 3, 0);
        x.endpoint(7, 0);
        x.bridge(7, 1, 0, 0);
        x.endpoint(10, 0);
        x.endpoint(6, 0);
        ask("all but four", x.powerUp(), 9);
        Due.are("up to 31", range(x, 6), 29, 31);
        ask("an ENDPOINT behind it", x.device(12, 3), 1);
        ask("no number for this one", x.device(7, 3), 0);
        ask("an ENDPOINT behind it", x.device(9, 3), 0);
        ask("a BRIDGE behind it", x.device(10, 3), 0);
        ask("an ENDPOINT behind that", x.device(11, 3), 0);
        ask("their BUS has no number", x.bus(9), NONE);
        ask("they are not REFUSED", x.about(5), 0);
        x.unplug(8);
        ask("number 28 for it, and 29", x.powerUp(), 12);
        ask("all others are numbered anew", x.window(10, 0), 29);
    }

    @Sentence(in = "Terms 2", says = "(b) All others are taken to be ON.")
    static void othersAreOn() {
        BusRanges x = new BusRanges();
        x.bridge(NONE, 0, 0, 0);
        x.endpoint(NONE, 1);
        endpoint(x, 0, 0, 0, 0);
        x.bridge(0, 1, 0, 0);
        ask("without THINGS, too", x.powerUp(), 4);
        x = crowdOfNumbers();
        x.endpoint(9, 0);
        x.endpoint(10, 0);
        ask("but those without a number", x.powerUp(), 11);
    }

    @Sentence(in = "Terms 2", says = "NEED of a BUS of a KIND: its THINGS, APERTURES of ENDPOINTS on it that are ON, and WINDOWS of BRIDGES on it that are ON and have one,")
    static void thingsThatAreOn() {
        BusRanges x = crowdOfNumbers();
        endpoint(x, 10, 0, 0, 8);
        endpoint(x, 9, 0, 0, 4);
        x.powerUp();
        ask("one of 256 without a number", x.device(11, 3), 0);
        ask("WINDOWS of those that are ON alone", x.units(0, 1), 16);
        Due.are("one behind three", bases(x, 12), 0);
        for (int i = 0; i < 8; i++) {
            x.stop(i);
        }
        x.space(0, 16);
        ask("enough for those that are ON", x.powerUp(), 11);
        ask("none is REFUSED", x.about(5), 0);
        ask("were all ON", x.need(NONE, 0), 272);
    }

    @Sentence(in = "Terms 2", says = "are laid one behind another from 0 on, each at the least multiple of its ALIGN that is not ahead of the end of the one before,")
    static void laidOneBehindAnother() {
        BusRanges x = new BusRanges();
        x.bridge(NONE, 0, 0, 0);
        endpoint(x, 0, 0, 0, 6, 0, 0);
        endpoint(x, NONE, 1, 0, 6);
        endpoint(x, NONE, 2, 0, 4);
        x.powerUp();
        ask("from 0 on", x.window(0, 2), 0);
        ask("80 units", x.window(0, 3), 80);
        Due.are("of 64 behind 80", bases(x, 2), 128);
        Due.are("of 16 behind 192, not in the gap", bases(x, 3), 192);
        ask("the end", x.need(NONE, 0), 208);
        x = new BusRanges();
        endpoint(x, NONE, 0, 0, 2, 0, 2);
        x.powerUp();
        Due.are("just at the end of the one before", bases(x, 0), 0, 4);
    }

    @Sentence(in = "Terms 2", says = "those of greater ALIGN first,")
    static void greaterAlignFirst() {
        BusRanges x = new BusRanges();
        x.bridge(NONE, 0, 0, 80);
        endpoint(x, NONE, 1, 0, 5);
        x.powerUp();
        Due.are("of ALIGN 32", bases(x, 1), 0);
        ask("of ALIGN 16, though greater", x.window(0, 2), 32);
    }

    @Sentence(in = "Terms 2", says = "then of greater size,")
    static void greaterSizeFirst() {
        BusRanges x = new BusRanges();
        x.bridge(NONE, 0, 0, 16);
        x.bridge(NONE, 1, 0, 32);
        endpoint(x, NONE, 2, 0, 4);
        x.powerUp();
        ask("of 32", x.window(1, 2), 0);
        ask("of 16", x.window(0, 2), 32);
        Due.are("of 16, too", bases(x, 2), 48);
    }

    @Sentence(in = "Terms 2", says = "then by SLOT,")
    static void thenBySlot() {
        BusRanges x = new BusRanges();
        endpoint(x, NONE, 5, 0, 4);
        x.bridge(NONE, 3, 0, 16);
        endpoint(x, NONE, 2, 0, 4);
        x.powerUp();
        Due.are("SLOT 2", bases(x, 2), 0);
        ask("SLOT 3", x.window(1, 2), 16);
        Due.are("SLOT 5", bases(x, 0), 32);
    }

    @Sentence(in = "Terms 2", says = "then by number (of an APERTURE);")
    static void thenByNumber() {
        BusRanges x = new BusRanges();
        endpoint(x, NONE, 1, 0, 1, 0, 1, 0, 1);
        endpoint(x, NONE, 0, 0, 1, 1, 1, 0, 1);
        x.powerUp();
        Due.are("the SLOT ahead", bases(x, 1), 0, 0, 2);
        Due.are("0, 1, 2", bases(x, 0), 4, 6, 8);
    }

    @Sentence(in = "Terms 2", says = "the end of the last one (0 without).")
    static void endOfTheLast() {
        BusRanges x = new BusRanges();
        ask("without", x.need(NONE, 0), 0);
        endpoint(x, NONE, 0, 1, 2, 1, 0);
        ask("without one of KIND 0", x.need(NONE, 0), 0);
        ask("4 and 1", x.need(NONE, 1), 5);
        x.bridge(NONE, 1, 0, 0);
        ask("without, behind a BRIDGE", x.need(1, 1), 0);
        ask("it adds none", x.need(NONE, 1), 5);
    }

    @Sentence(in = "Terms 2", says = "ALIGN of an APERTURE is its size;")
    static void alignOfAnAperture() {
        for (int e = 0; e < 9; e++) {
            BusRanges x = new BusRanges();
            endpoint(x, NONE, 0, 0, e);
            ask("of 2 to the power of " + e, x.align(NONE, 0), 1 << e);
        }
    }

    @Sentence(in = "Terms 2", says = "of a WINDOW 16, or the greatest ALIGN on the BUS behind the BRIDGE, if that is greater.")
    static void alignOfAWindow() {
        int[] due = {16, 16, 16, 16, 16, 32, 64, 128, 256};
        for (int e = 0; e < 9; e++) {
            BusRanges x = new BusRanges();
            x.bridge(NONE, 0, 0, 0);
            endpoint(x, 0, 0, 0, e);
            ask("before one of 2 to the power of " + e, x.align(NONE, 0), due[e]);
        }
        BusRanges x = new BusRanges();
        x.bridge(NONE, 0, 0, 64);
        x.bridge(NONE, 1, 0, 0);
        x.bridge(1, 0, 0, 0);
        endpoint(x, 2, 0, 0, 5, 0, 0);
        x.powerUp();
        ask("ALIGN 32 of one behind two, 48 units", x.window(1, 2), 0);
        ask("ALIGN 16, 64 units", x.window(0, 2), 48);
        x = new BusRanges();
        x.space(1, 1024);
        x.bridge(NONE, 0, 0, 0);
        endpoint(x, 0, 0, 1, 6, 1, 0);
        x.bridge(NONE, 1, 0, 80);
        endpoint(x, NONE, 2, 1, 6);
        x.powerUp();
        ask("KIND 1: ALIGN 64, 80 units", x.window(0, 4), 0);
        Due.are("KIND 1: ALIGN 64, 64 units", bases(x, 3), 128);
        ask("KIND 1: ALIGN 16, 80 units", x.window(2, 4), 192);
    }

    @Sentence(in = "Terms 2", says = "A WINDOW's size: NEED of the BUS behind, and what the BRIDGE leaves UNITS, rounded up to a multiple of 16;")
    static void sizeOfAWindow() {
        int[] units = {1, 15, 16, 17, 128, 0, 8, 9};
        int[] due = {16, 16, 16, 32, 128, 16, 16, 32};
        BusRanges x = withSpace(1024);
        for (int i = 0; i < 8; i++) {
            x.bridge(NONE, i, 0, units[i]);
        }
        for (int i = 5; i < 8; i++) {
            endpoint(x, i, 0, 0, 3);
        }
        x.powerUp();
        for (int i = 0; i < 8; i++) {
            ask((i < 5 ? "0" : "8") + " and " + units[i], x.window(i, 3), due[i]);
            ask(units[i] + " of the other KIND", x.window(i, 5), i == 5 ? 0 : i == 7 || i == 6 ? 16 : due[i]);
        }
    }

    @Sentence(in = "Terms 2", says = "if that is 0, there is none.")
    static void noWindow() {
        BusRanges x = new BusRanges();
        x.bridge(NONE, 0, 0, 0);
        x.bridge(0, 0, 0, 0);
        x.endpoint(1, 0);
        x.powerUp();
        Due.are("the outer", window(x, 0), 1, 2, NONE, 0, NONE, 0);
        Due.are("the inner", window(x, 1), 2, 2, NONE, 0, NONE, 0);
        ask("no THING", x.align(NONE, 0), 0);
        ask("no address is in it", x.way(0, 0), NONE);
    }

    @Sentence(in = "Terms 2", says = "(c) If NEED of the HOST's BUS is above the SPACE")
    static void needAboveSpace() {
        BusRanges x = withSpace(8);
        endpoint(x, NONE, 0, 0, 3);
        ask("just enough", x.powerUp(), 1);
        x.stop(0);
        x.space(0, 7);
        ask("one unit short", x.powerUp(), 0);
        x = withSpace(192);
        x.bridge(NONE, 0, 0, 0);
        endpoint(x, 0, 0, 0, 6, 0, 0);
        endpoint(x, NONE, 1, 0, 6);
        ask("NEED 192", x.powerUp(), 3);
        x.stop(0);
        x.stop(2);
        x.space(0, 191);
        ask("though 144 units would do", x.powerUp(), 2);
        Due.are("one is REFUSED", refused(x), 1);
        x = withSpace(0);
        x.bridge(NONE, 0, 0, 0);
        ask("NEED 0, no SPACE", x.powerUp(), 1);
    }

    @Sentence(in = "Terms 2", says = "(of KIND 0, else of KIND 1):")
    static void kindZeroFirst() {
        BusRanges x = withSpace(8);
        x.space(1, 8);
        endpoint(x, NONE, 0, 1, 4);
        endpoint(x, NONE, 1, 0, 4);
        endpoint(x, NONE, 2, 0, 2, 1, 3);
        endpoint(x, NONE, 3, 1, 2);
        ask("both KINDS are short", x.powerUp(), 1);
        Due.are("16 of KIND 0, then of KIND 1 16 and 8", refused(x), 1, 0, 2);
    }

    @Sentence(in = "Terms 2", says = "of the ENDPOINTS that are ON that with most units of that KIND goes OFF")
    static void mostUnitsGoesOff() {
        BusRanges x = withSpace(31);
        endpoint(x, NONE, 0, 0, 4);
        endpoint(x, NONE, 1, 0, 3, 0, 3, 0, 2);
        endpoint(x, NONE, 2, 1, 8);
        x.powerUp();
        Due.are("20 in three APERTURES, not 256 of the other KIND", refused(x), 1);
        x = crowdOfNumbers();
        endpoint(x, 10, 0, 0, 8);
        endpoint(x, 0, 0, 0, 4);
        for (int i = 0; i < 8; i++) {
            x.stop(i);
        }
        x.space(0, 15);
        x.powerUp();
        Due.are("not one that is OFF for want of a number", refused(x), 12);
    }

    @Sentence(in = "Terms 2", says = "(of like ones the first by the WALK),")
    static void likeOnesByTheWalk() {
        BusRanges x = withSpace(32);
        endpoint(x, NONE, 5, 0, 4);
        x.bridge(NONE, 3, 0, 0);
        endpoint(x, 1, 0, 0, 4);
        endpoint(x, NONE, 4, 0, 3, 0, 3);
        x.powerUp();
        Due.are("behind a BRIDGE in SLOT 3", refused(x), 2);
    }

    @Sentence(in = "Terms 2", says = "if any has some;")
    static void ifAnyHasSome() {
        BusRanges x = new BusRanges();
        x.space(1, 0);
        endpoint(x, NONE, 0, 0, 4);
        x.bridge(NONE, 1, 0, 1);
        endpoint(x, NONE, 2, 1, 0);
        ask("two go", x.powerUp(), 1);
        Due.are("the one that has some, then the BRIDGE", refused(x), 2, 1);
        ask("not the one that has none", x.device(0, 3), 1);
    }

    @Sentence(in = "Terms 2", says = "else the BRIDGE that is ON and leaves most UNITS (likewise), with what is behind it.")
    static void bridgeGoesOff() {
        BusRanges x = withSpace(32);
        x.bridge(NONE, 4, 0, 20);
        x.bridge(NONE, 1, 0, 20);
        x.bridge(1, 0, 1, 0);
        x.endpoint(2, 0);
        ask("with two behind it", x.powerUp(), 1);
        Due.are("of like ones the first by the WALK", refused(x), 1);
        ask("what is behind it", x.device(3, 3), 0);
        x = withSpace(0);
        x.bridge(NONE, 0, 0, 100);
        x.bridge(0, 0, 0, 90);
        x.bridge(NONE, 1, 0, 80);
        x.powerUp();
        Due.are("not one that is OFF", refused(x), 0, 2);
        x = new BusRanges();
        x.bridge(NONE, 0, 0, 100);
        x.bridge(0, 0, 0, 120);
        x.bridge(NONE, 1, 0, 110);
        x.powerUp();
        Due.are("the one that leaves most, though inside", refused(x), 1);
    }

    @Sentence(in = "Terms 2", says = "It is REFUSED.")
    static void itIsRefused() {
        BusRanges x = withSpace(0);
        x.bridge(NONE, 0, 0, 5);
        x.endpoint(0, 0);
        x.endpoint(NONE, 1);
        x.powerUp();
        Due.are("it alone", refused(x), 0);
        ask("what is behind it is OFF", x.device(1, 3), 0);
        ask("another is not", x.device(2, 3), 1);
    }

    @Sentence(in = "Terms 2", says = "Then (c) again.")
    static void thenAgain() {
        BusRanges x = withSpace(2);
        endpoint(x, NONE, 0, 0, 0);
        endpoint(x, NONE, 1, 0, 2);
        endpoint(x, NONE, 2, 0, 1);
        endpoint(x, NONE, 3, 0, 3);
        ask("till it is enough", x.powerUp(), 1);
        Due.are("of 8, 4, 2", refused(x), 3, 1, 2);
        x = withSpace(0);
        x.bridge(NONE, 0, 0, 1);
        x.bridge(NONE, 1, 0, 1);
        for (int i = 2; i < 20; i++) {
            endpoint(x, i < 10 ? 0 : i < 18 ? 1 : NONE, i < 18 ? (i - 2) % 8 : i - 14, 0, 0);
        }
        ask("till none is ON", x.powerUp(), 0);
        Due.are("all 20", refused(x), 2, 3, 4, 5, 6, 7, 8, 9, 10, 11, 12, 13, 14, 15, 16, 17, 18, 19, 0, 1);
    }

    @Sentence(in = "Terms 2", says = "(d) On the HOST's BUS all THINGS lie as they were laid for NEED;")
    static void lieOnTheHostsBus() {
        BusRanges x = nested();
        ask("of 64, ALIGN 32", x.window(0, 2), 0);
        ask("of 4", x.bar(4, 0, 2), 64);
        ask("KIND 1 of 64", x.bar(4, 1, 2), 0);
        ask("KIND 1 of 32, ALIGN 16", x.window(0, 4), 64);
        x = withSpace(24);
        for (int i = 0; i < 8; i++) {
            endpoint(x, NONE, i, 0, 0, 0, 0, 0, 0);
        }
        x.powerUp();
        Due.are("the last of 24 THINGS", bases(x, 7), 21, 22, 23);
    }

    @Sentence(in = "Terms 2", says = "on a BUS behind a BRIDGE so, too, from where its WINDOW begins.")
    static void lieFromTheWindowOn() {
        BusRanges x = new BusRanges();
        endpoint(x, NONE, 0, 0, 7);
        x.bridge(NONE, 1, 0, 0);
        endpoint(x, 1, 0, 0, 2);
        x.bridge(1, 1, 0, 0);
        endpoint(x, 3, 0, 0, 6, 1, 0);
        x.powerUp();
        Due.are("the outer from 128 on", window(x, 1), 1, 2, 128, 80, 0, 16);
        Due.are("the inner from there on", window(x, 3), 2, 2, 128, 64, 0, 16);
        Due.are("of 64", bases(x, 4), 128, 0);
        Due.are("of 4", bases(x, 2), 192);
    }

    // ---- Terms 2: START and STOP ----

    @Sentence(in = "Terms 2", says = "START of a DEVICE that is OFF, all others staying:")
    static void othersStay() {
        BusRanges x = withSpace(16);
        endpoint(x, NONE, 0, 0, 2);
        endpoint(x, NONE, 1, 0, 2);
        x.start(0);
        x.start(1);
        x.stop(0);
        endpoint(x, NONE, 2, 0, 3);
        x.start(2);
        Due.are("another stays", bases(x, 1), 4);
        Due.are("behind it", bases(x, 2), 8);
        x.bridge(NONE, 3, 0, 0);
        x.endpoint(3, 0);
        x.start(3);
        ask("what is behind it stays OFF", x.device(4, 3), 0);
        ask("one that is ON", x.start(3), NONE);
        ask("four of five", x.about(2), 3);
    }

    @Sentence(in = "Terms 2", says = "its BUS must be ON (the HOST's, or one behind an ON BRIDGE).")
    static void busMustBeOn() {
        BusRanges x = new BusRanges();
        x.bridge(NONE, 0, 3, 16);
        endpoint(x, 0, 0, 0, 0);
        x.bridge(0, 1, 0, 0);
        ask("an ENDPOINT behind an OFF one", x.start(1), -2);
        ask("a BRIDGE behind an OFF one", x.start(2), -2);
        ask("on the HOST's", x.start(0), 1);
        ask("an ENDPOINT behind an ON one", x.start(1), 1);
        ask("a BRIDGE behind an ON one", x.start(2), 2);
    }

    @Sentence(in = "Terms 2", says = "ENDPOINT: its APERTURES, the greater first (of like ones the first),")
    static void startGreaterFirst() {
        BusRanges x = withSpace(16);
        endpoint(x, NONE, 0, 0, 0, 0, 2, 0, 1);
        x.start(0);
        Due.are("of 1, 4, 2", bases(x, 0), 6, 0, 4);
        endpoint(x, NONE, 1, 0, 1, 0, 1, 0, 2);
        x.start(1);
        Due.are("of 2, 2, 4", bases(x, 1), 12, 14, 8);
    }

    @Sentence(in = "Terms 2", says = "each get the lowest BASE that is a multiple of their size,")
    static void startLowestMultiple() {
        BusRanges x = withSpace(32);
        int[] e = {0, 3, 1, 2, 0, 4};
        int[] due = {0, 8, 2, 4, 1, 16};
        for (int i = 0; i < 6; i++) {
            endpoint(x, NONE, i, 0, e[i]);
            x.start(i);
            Due.are("of 2 to the power of " + e[i], bases(x, i), due[i]);
        }
    }

    @Sentence(in = "Terms 2", says = "lie in the WINDOW of the BUS (the SPACE of the HOST),")
    static void startWithin() {
        BusRanges x = withSpace(20);
        endpoint(x, NONE, 0, 0, 4);
        endpoint(x, NONE, 1, 0, 3);
        endpoint(x, NONE, 2, 0, 2);
        endpoint(x, NONE, 3, 0, 0);
        ask("of 16", x.start(0), 1);
        ask("of 8 beyond the SPACE", x.start(1), -4);
        ask("of 4 up to its end", x.start(2), 1);
        ask("of 1 beyond it", x.start(3), -4);
        x = new BusRanges();
        endpoint(x, NONE, 0, 0, 4);
        x.start(0);
        x.bridge(NONE, 1, 0, 16);
        x.start(1);
        endpoint(x, 1, 0, 0, 5);
        endpoint(x, 1, 1, 0, 4, 1, 4);
        endpoint(x, 1, 2, 0, 0);
        ask("of 32 in a WINDOW of 16", x.start(2), -4);
        ask("as great as the WINDOW", x.start(3), 2);
        Due.are("where the WINDOW of each KIND begins", bases(x, 3), 16, 0);
        ask("of 1 in a full one", x.start(4), -4);
        x.bridge(NONE, 2, 0, 0);
        x.start(5);
        endpoint(x, 5, 0, 0, 0);
        ask("of 1 without a WINDOW", x.start(6), -4);
        x = withSpace(0);
        endpoint(x, NONE, 0, 0, 0);
        ask("of 1 without SPACE", x.start(0), -4);
    }

    @Sentence(in = "Terms 2", says = "and meet no THING there.")
    static void startMeetsNone() {
        BusRanges x = rowOfTwos(4);
        x.stop(1);
        x.stop(2);
        endpoint(x, NONE, 4, 0, 2);
        ask("of 4 over 2 .. 5", x.start(4), -4);
        x.unplug(4);
        endpoint(x, NONE, 4, 0, 1, 0, 0, 0, 0);
        ask("as much as the gap", x.start(4), 3);
        Due.are("in the gap", bases(x, 4), 2, 4, 5);
        ask("it is full", x.gap(NONE, 0), 0);
        x = withSpace(32);
        x.bridge(NONE, 7, 0, 16);
        x.start(0);
        endpoint(x, NONE, 0, 0, 3, 0, 3);
        endpoint(x, NONE, 1, 0, 0);
        x.start(1);
        Due.are("not in a WINDOW", bases(x, 1), 16, 24);
        ask("but for the WINDOW there is none", x.start(2), -4);
    }

    @Sentence(in = "Terms 2", says = "BRIDGE: the lowest number of the RANGE of its BUS that is free")
    static void startLowestNumber() {
        BusRanges x = new BusRanges();
        x.bridge(NONE, 0, 1, 0);
        x.bridge(NONE, 1, 0, 0);
        ask("1 of the HOST's", x.start(0), 1);
        ask("behind 1 .. 2", x.start(1), 3);
        x.stop(0);
        x.bridge(NONE, 2, 0, 0);
        ask("1 again", x.start(2), 1);
        ask("between 1 and 3", x.start(0), 2);
        x = crowdOfNumbers();
        ask("none is free", x.start(10), -3);
        x.stop(9);
        ask("31 is", x.start(10), 31);
    }

    @Sentence(in = "Terms 2", says = "(in no RANGE of an ON BRIDGE on that BUS, and not the first one of that RANGE),")
    static void startFreeNumber() {
        BusRanges x = new BusRanges();
        x.bridge(NONE, 0, 2, 0);
        x.start(0);
        for (int slot = 0; slot < 3; slot++) {
            x.bridge(0, slot, 0, 0);
        }
        x.bridge(NONE, 1, 0, 0);
        ask("not the first", x.start(1), 2);
        ask("the last", x.start(2), 3);
        ask("none", x.start(3), -3);
        ask("not what another leaves", x.start(4), 4);
        x.bridge(4, 0, 0, 0);
        ask("in a RANGE of one", x.start(5), -3);
    }

    @Sentence(in = "Terms 2", says = "and as many more behind it as it leaves NUMBERS, as long as they are free;")
    static void startMoreNumbers() {
        BusRanges x = new BusRanges();
        x.bridge(NONE, 0, 2, 0);
        x.bridge(NONE, 1, 2, 0);
        x.start(0);
        x.start(1);
        Due.are("all it leaves", range(x, 1), 4, 6);
        x.stop(0);
        x.bridge(NONE, 2, 3, 0);
        x.start(2);
        Due.are("till another's RANGE", range(x, 2), 1, 3);
        x.bridge(1, 0, 3, 0);
        x.start(3);
        Due.are("till the end of the RANGE", range(x, 3), 5, 6);
        x = new BusRanges();
        for (int i = 0; i < 8; i++) {
            x.bridge(NONE, i, 3, 0);
            x.start(i);
        }
        Due.are("till 28", range(x, 6), 25, 28);
        Due.are("till 31", range(x, 7), 29, 31);
    }

    @Sentence(in = "Terms 2", says = "of each KIND a WINDOW of as many units as it leaves, rounded up to a multiple of 16 (none, if that is 0),")
    static void startWindows() {
        int[] units = {0, 1, 16, 17, 128};
        int[] due = {0, 16, 16, 32, 128};
        BusRanges x = new BusRanges();
        for (int i = 0; i < 5; i++) {
            x.bridge(NONE, i, 0, units[i]);
            x.start(i);
            ask(units[i] + " units of KIND 0", x.window(i, 3), due[i]);
            ask(units[i] + " units of KIND 1", x.window(i, 5), due[i]);
        }
        Due.are("none", window(x, 0), 1, 1, NONE, 0, NONE, 0);
        endpoint(x, 0, 0, 0, 3);
        x.stop(0);
        x.start(0);
        ask("what is behind does not count", x.window(0, 3), 0);
    }

    @Sentence(in = "Terms 2", says = "at the lowest multiple of 16, likewise.")
    static void startWindowWhere() {
        BusRanges x = withSpace(48);
        endpoint(x, NONE, 0, 0, 0);
        x.start(0);
        x.bridge(NONE, 1, 0, 16);
        x.start(1);
        Due.are("behind one of 1; KIND 1 from 0 on", window(x, 1), 1, 1, 16, 16, 0, 16);
        x.bridge(NONE, 2, 0, 17);
        ask("32 beyond the SPACE", x.start(2), -4);
        x.bridge(NONE, 3, 0, 16);
        x.start(3);
        ask("16 up to its end", x.window(3, 2), 32);
        x = withSpace(31);
        x.bridge(NONE, 0, 0, 16);
        x.bridge(NONE, 1, 0, 1);
        ask("in 0 .. 15", x.start(0), 1);
        ask("16 .. 31 is one short", x.start(1), -4);
        x = new BusRanges();
        x.space(1, 0);
        x.bridge(NONE, 0, 0, 1);
        ask("none of KIND 1", x.start(0), -4);
        x = new BusRanges();
        x.bridge(NONE, 0, 2, 48);
        x.start(0);
        x.bridge(0, 0, 0, 32);
        x.bridge(0, 1, 0, 32);
        ask("within a WINDOW", x.start(1), 2);
        ask("beyond it", x.start(2), -4);
    }

    @Sentence(in = "Terms 2", says = "STOP: it is OFF, with what is behind it;")
    static void stopWithAll() {
        BusRanges x = nested();
        x.stop(2);
        ask("it", x.device(2, 3), 0);
        ask("what is behind it", x.device(3, 3), 0);
        ask("what it is behind", x.device(0, 3), 1);
        ask("what is beside it", x.device(1, 3), 1);
        ask("what is on the HOST's BUS", x.device(4, 3), 1);
    }

    @Sentence(in = "Terms 2", says = "all it had is free.")
    static void stopFrees() {
        BusRanges x = nested();
        x.stop(0);
        ask("numbers", x.spare(NONE), 31);
        ask("the WINDOW", x.gap(NONE, 0), 252);
        ask("the WINDOW of KIND 1", x.gap(NONE, 1), 192);
        ask("it has none", x.window(0, 2), -2);
        Due.are("nor a BASE behind it", bases(x, 3), NONE, NONE);
        ask("its address goes nowhere", x.owner(0, 0), NONE);
        x.bridge(NONE, 7, 0, 16);
        ask("its number", x.start(5), 1);
        ask("its room", x.window(5, 2), 0);
    }

    // ---- Terms 2: REBALANCE ----

    @Sentence(in = "Terms 2", says = "REBALANCE for an ENDPOINT that is OFF, its BUS ON:")
    static void rebalanceForWhom() {
        BusRanges x = new BusRanges();
        x.bridge(NONE, 0, 0, 16);
        endpoint(x, 0, 0, 0, 0);
        endpoint(x, NONE, 1, 0, 0);
        ask("a BRIDGE", x.rebalance(0), NONE);
        ask("its BUS OFF", x.rebalance(1), -2);
        ask("on the HOST's", x.rebalance(2), 0);
        ask("one that is ON", x.rebalance(2), NONE);
        x.start(0);
        ask("its BUS ON", x.rebalance(1), 0);
        Due.are("in its WINDOW", bases(x, 1), 16);
    }

    /** Of both KINDS 0 .. 15, of which SLOTS 6, 4, 2 and 0 have 2, 3; 6, 7; 10, 11; 14, 15. */
    private static BusRanges bothKinds() {
        BusRanges x = withSpace(16);
        x.space(1, 16);
        for (int i = 0; i < 8; i++) {
            endpoint(x, NONE, 7 - i, 0, 1, 1, 1);
            x.start(i);
        }
        for (int i = 0; i < 8; i += 2) {
            x.stop(i);
        }
        x.unplug(0);
        return x;
    }

    @Sentence(in = "Terms 2", says = "of each KIND of which it has APERTURES:")
    static void rebalanceEachKind() {
        BusRanges x = bothKinds();
        endpoint(x, NONE, 7, 0, 3, 1, 3);
        ask("two of each", x.rebalance(0), 4);
        Due.are("its own", bases(x, 0), 8, 8);
        Due.are("SLOT 0", bases(x, 7), 0, 0);
        Due.are("SLOT 2", bases(x, 5), 4, 4);
        x = bothKinds();
        endpoint(x, NONE, 7, 1, 3);
        ask("two of KIND 1 alone", x.rebalance(0), 2);
        Due.are("SLOT 0 moves of KIND 1 alone", bases(x, 7), 14, 0);
        x = bothKinds();
        x.endpoint(NONE, 7);
        ask("of none", x.rebalance(0), 0);
        x = bothKinds();
        endpoint(x, NONE, 7, 0, 3, 1, 4);
        ask("of one KIND there is no way", x.rebalance(0), -4);
        Due.are("then none moves", bases(x, 7), 14, 14);
    }

    @Sentence(in = "Terms 2", says = "the fewest APERTURES of ON ENDPOINTS on that BUS, of that KIND,")
    static void rebalanceFewest() {
        BusRanges x = withSpace(14);
        int[] slots = {7, 6, 0, 1, 2, 5, 4};
        for (int i = 0; i < 7; i++) {
            endpoint(x, NONE, slots[i], 0, 1);
            x.start(i);
        }
        x.stop(1);
        x.stop(6);
        endpoint(x, NONE, 3, 0, 2);
        ask("one of SLOT 7, not two of SLOTS 0 and 1", x.rebalance(7), 1);
        Due.are("SLOT 7", bases(x, 0), 12);
        Due.are("SLOT 0", bases(x, 2), 4);
        Due.are("its own", bases(x, 7), 0);
        x = withSpace(48);
        endpoint(x, NONE, 0, 0, 4);
        x.start(0);
        x.bridge(NONE, 1, 0, 16);
        x.start(1);
        x.stop(0);
        endpoint(x, NONE, 2, 0, 5);
        ask("32 units are free, but a WINDOW stays", x.rebalance(2), -4);
        ask("none moves where there is room", x.rebalance(0), 0);
    }

    /**
     * A SPACE of 24. APERTURES of 1 by START: DEVICE 0 at 0, 1; 1 at 2 .. 4; 2 at 5 .. 7; 3 at
     * 8 .. 10; 4 at 11 .. 13; 5 at 14, 15; 6 at 16 .. 18; then 0, 1 and 5 are stopped. For 8 units
     * three must move: those of 2 (SLOT 5), or those of 6 (SLOT 4).
     */
    private static BusRanges three() {
        BusRanges x = withSpace(24);
        int[] slots = {2, 3, 5, 1, 6, 7, 4};
        for (int i = 0; i < 7; i++) {
            x.endpoint(NONE, slots[i]);
            for (int a = i == 0 || i == 5 ? 1 : 0; a < 3; a++) {
                x.aperture(i, 0, 0);
            }
            x.start(i);
        }
        x.stop(0);
        x.stop(1);
        x.stop(5);
        endpoint(x, NONE, 0, 0, 3);
        return x;
    }

    @Sentence(in = "Terms 2", says = "three at most, that may move:")
    static void rebalanceThreeAtMost() {
        ask("three", three().rebalance(7), 3);
        BusRanges x = lastRow();
        ask("three, the last row of all", x.rebalance(7), 3);
        Due.are("into the three gaps", bases(x, 6), 3, 7, 15);
        Due.are("its own", bases(x, 7), 16);
        x = withSpace(32);
        for (int i = 0; i < 8; i++) {
            endpoint(x, NONE, i, 0, 1, 0, 1);
            x.start(i);
        }
        for (int i = 1; i < 8; i += 2) {
            x.stop(i);
        }
        x.unplug(1);
        endpoint(x, NONE, 1, 0, 4);
        ask("four", x.rebalance(1), -4);
        x.unplug(0);
        ask("two then", x.rebalance(1), 2);
    }

    @Sentence(in = "Terms 2", says = "without them, its own and these are laid down, those of greater size first, then its own, then by SLOT, then by number,")
    static void rebalanceOrder() {
        BusRanges x = withSpace(16);
        int[] e = {1, 1, 2, 2};
        for (int i = 0; i < 4; i++) {
            endpoint(x, NONE, i < 3 ? 2 * i : 6, 0, e[i]);
            x.start(i);
        }
        x.start(endpoint(x, NONE, 7, 0, 0, 0, 0));
        x.stop(1);
        x.stop(3);
        endpoint(x, NONE, 1, 0, 3);
        ask("of 2 in SLOT 0 and of 4 in SLOT 4 move", x.rebalance(5), 2);
        Due.are("its own of 8", bases(x, 5), 0);
        Due.are("of 4, greater, though of a higher SLOT", bases(x, 2), 8);
        Due.are("of 2", bases(x, 0), 14);
        x = rowOfTwos(5);
        x.stop(1);
        x.stop(3);
        x.stop(4);
        endpoint(x, NONE, 7, 0, 2, 0, 1);
        ask("one moves", x.rebalance(5), 1);
        Due.are("its own of 2 ahead", bases(x, 5), 0, 6);
        Due.are("of another of 2, though of a lower SLOT", bases(x, 0), 8);
        x = bothKinds();
        endpoint(x, NONE, 7, 0, 3);
        x.rebalance(0);
        Due.are("by SLOT: 0, with the higher number", bases(x, 7), 0, 14);
        Due.are("by SLOT: 2", bases(x, 5), 4, 10);
        x = three();
        x.rebalance(7);
        Due.are("by number", bases(x, 6), 0, 1, 2);
    }

    @Sentence(in = "Terms 2", says = "each at the lowest BASE as in START, and all find room;")
    static void rebalanceAllFindRoom() {
        BusRanges x = rowOfTwos(4);
        x.stop(1);
        x.stop(3);
        endpoint(x, NONE, 4, 0, 2);
        ask("just room", x.rebalance(4), 1);
        Due.are("its own at the lowest", bases(x, 4), 0);
        Due.are("that moved at the lowest", bases(x, 0), 6);
        x = rowOfTwos(4);
        x.stop(1);
        endpoint(x, NONE, 4, 0, 2);
        ask("its own would find room, but not that which moves", x.rebalance(4), -4);
        x = rowOfTwos(4);
        x.stop(1);
        x.stop(3);
        endpoint(x, NONE, 4, 0, 2, 0, 0);
        ask("not all its own", x.rebalance(4), -4);
        x = withSpace(28);
        endpoint(x, NONE, 0, 0, 3);
        endpoint(x, NONE, 1, 0, 2);
        x.start(0);
        x.start(1);
        endpoint(x, NONE, 2, 0, 4);
        ask("16 .. 31 would be beyond the SPACE", x.rebalance(2), 2);
        Due.are("its own", bases(x, 2), 0);
        Due.are("of 8", bases(x, 0), 16);
        Due.are("of 4", bases(x, 1), 24);
    }

    @Sentence(in = "Terms 2", says = "of like ones the first row of them (each told by SLOT, then by number, rows compared one by one).")
    static void rebalanceFirstRow() {
        BusRanges x = withSpace(8);
        endpoint(x, NONE, 0, 0, 1);
        endpoint(x, NONE, 1, 0, 1, 0, 1);
        endpoint(x, NONE, 2, 0, 1);
        for (int i = 0; i < 3; i++) {
            x.start(i);
        }
        x.stop(0);
        x.stop(2);
        endpoint(x, NONE, 3, 0, 2);
        ask("either would do", x.rebalance(3), 1);
        Due.are("the first by number", bases(x, 1), 6, 4);
        x = withSpace(16);
        int[] slots = {0, 7, 4, 1, 2};
        for (int i = 0; i < 5; i++) {
            endpoint(x, NONE, slots[i], 0, i == 2 ? 2 : 1);
            x.start(i);
        }
        x.stop(2);
        endpoint(x, NONE, 5, 0, 3);
        ask("SLOTS 0 and 7 ahead of 1 and 2", x.rebalance(5), 2);
        Due.are("SLOT 0", bases(x, 0), 12);
        Due.are("SLOT 7", bases(x, 1), 14);
        Due.are("SLOT 1 stays", bases(x, 3), 8);
        Due.are("SLOT 2 stays", bases(x, 4), 10);
        x = three();
        x.rebalance(7);
        Due.are("three of SLOT 4, at 16 .. 18", bases(x, 6), 0, 1, 2);
        Due.are("not three of SLOT 5, at 5 .. 7", bases(x, 2), 5, 6, 7);
        x = rowsOfTwo();
        ask("two ways to move two", x.rebalance(7), 2);
        Due.are("SLOTS 1 and 3: of 4", bases(x, 3), 20);
        Due.are("SLOTS 1 and 3: of 2", bases(x, 4), 6);
        Due.are("not SLOTS 2 and 4: of 4", bases(x, 0), 0);
        Due.are("not SLOTS 2 and 4: of 2", bases(x, 1), 4);
    }

    /** A SPACE of 24: SLOTS 2 and 4 have 0 .. 5, SLOTS 1 and 3 have 8 .. 13, SLOT 7 has 16 .. 18. */
    private static BusRanges rowsOfTwo() {
        BusRanges x = withSpace(24);
        int[] slots = {2, 4, 5, 1, 3, 6};
        for (int i = 0; i < 6; i++) {
            endpoint(x, NONE, slots[i], 0, i % 3 == 0 ? 2 : 1);
        }
        endpoint(x, NONE, 7, 0, 0, 0, 0, 0, 0);
        for (int i = 0; i < 7; i++) {
            x.start(i);
        }
        x.stop(2);
        x.stop(5);
        endpoint(x, NONE, 0, 0, 3);
        return x;
    }

    @Sentence(in = "Terms 2", says = "Those moved are those of these whose BASE is another one then.")
    static void rebalanceMoved() {
        BusRanges x = rowOfTwos(4);
        x.stop(1);
        x.stop(3);
        ask("into a gap: none", x.rebalance(1), 0);
        x.stop(1);
        endpoint(x, NONE, 4, 0, 2);
        ask("one", x.rebalance(4), 1);
        ask("its BASE was 0", x.bar(0, 0, 2), 6);
        ask("the other's is as it was", x.bar(2, 0, 2), 4);
        ask("its own are not among them", three().rebalance(7), 3);
    }

    // ---- Terms 3 ----

    /** The i-th of a run of 11 ACTS, among them each there is. */
    private static void act(BusRanges x, int i) {
        switch (i) {
            case 0 -> x.space(0, 64);
            case 1 -> x.bridge(NONE, 0, 1, 20);
            case 2 -> x.endpoint(0, 1);
            case 3 -> x.aperture(1, 0, 3);
            case 4 -> x.powerUp();
            case 5 -> x.stop(1);
            case 6 -> x.start(1);
            case 7 -> x.endpoint(0, 2);
            case 8 -> x.rebalance(2);
            case 9 -> x.unplug(1);
            default -> {
                x.stop(2);
                x.shift(2, NONE, 7);
            }
        }
    }

    private static final int[] COUNTS = {1, 2, 3, 4, 5, 6, 7, 8, 9, 10, 12};

    @Sentence(in = "Terms 3", says = "ACTS are endpoint(), bridge(), aperture(), unplug(), shift(), space(), powerUp(), start(), stop(), rebalance(),")
    static void acts() {
        BusRanges x = new BusRanges();
        for (int i = 0; i < 11; i++) {
            act(x, i);
            ask("ACT " + i, x.about(6), COUNTS[i]);
        }
        x.image(0);
        x.moves(2);
        x.would(0);
        x.chance(1, 50, 0);
        x.blame(2);
        x.place(2);
        x.undo();
        ask("nothing else is one", x.about(6), 11);
        x.redo();
        ask("nor REDO", x.about(6), 12);
    }

    @Sentence(in = "Terms 3", says = "where they are not refused;")
    static void refusedActs() {
        BusRanges x = nestedWithRedo();
        String before = told(x);
        x.endpoint(NONE, 5);
        x.bridge(NONE, 0, 4, 0);
        x.aperture(4, 0, 0);
        x.unplug(5);
        x.shift(4, NONE, 0);
        x.space(0, 8);
        x.start(4);
        x.stop(9);
        x.rebalance(4);
        unchanged(x, before);
        ask("what was taken back can be done again", x.redo(), true);
    }

    @Sentence(in = "Terms 3", says = "UNDO takes back the latest ACT that was not,")
    static void undoLatest() {
        BusRanges x = nested();
        x.stop(3);
        x.stop(3);
        ask("the latest that was not refused", x.undo(), true);
        ask("ON again", x.device(3, 3), 1);
        ask("the one before that", x.undo(), true);
        ask("before POWER-UP", x.about(2), 0);
        ask("none of a new object", new BusRanges().undo(), false);
    }

    @Sentence(in = "Terms 3", says = "REDO does that again which was taken back last (till another ACT):")
    static void redoLast() {
        BusRanges x = nested();
        ask("nothing was taken back", x.redo(), false);
        x.stop(1);
        x.stop(4);
        x.undo();
        x.undo();
        ask("the last taken back", x.redo(), true);
        ask("stop(1)", x.device(1, 3), 0);
        ask("not stop(4)", x.device(4, 3), 1);
        ask("then that", x.redo(), true);
        ask("stop(4)", x.device(4, 3), 0);
        ask("then none", x.redo(), false);
        x.undo();
        x.space(0, 1025);
        ask("a refused one is none", x.redo(), true);
        x.undo();
        x.start(1);
        ask("another ACT", x.redo(), false);
    }

    @Sentence(in = "Terms 3", says = "all is as it was then;")
    static void allAsItWas() {
        for (int k = 0; k <= 11; k++) {
            BusRanges once = new BusRanges();
            for (int i = 0; i < k; i++) {
                act(once, i);
            }
            BusRanges back = new BusRanges();
            for (int i = 0; i < 11; i++) {
                act(back, i);
            }
            int count = k == 0 ? 0 : COUNTS[k - 1];
            for (int i = COUNTS[10]; i > count; i--) {
                ask("UNDO", back.undo(), true);
            }
            String due = state(once);
            ask("after " + k + " ACTS, by UNDO", state(back).equals(due), true);
            for (int i = 0; i < count; i++) {
                back.undo();
            }
            for (int i = 0; i < count; i++) {
                ask("REDO", back.redo(), true);
            }
            ask("after " + k + " ACTS, by REDO", state(back).equals(due), true);
        }
    }

    @Sentence(in = "Terms 3", says = "20 at most are kept, the oldest go.")
    static void twentyAtMost() {
        for (int acts = 19; acts < 22; acts++) {
            BusRanges x = new BusRanges();
            for (int i = 1; i <= acts; i++) {
                x.space(0, i);
            }
            int kept = Math.min(acts, 20);
            ask(acts + " ACTS: are kept", x.about(6), kept);
            for (int i = 0; i < kept; i++) {
                ask("UNDO", x.undo(), true);
            }
            ask("no more", x.undo(), false);
            ask("the oldest go", x.about(8), acts == 21 ? 1 : 256);
            for (int i = 0; i < kept; i++) {
                ask("REDO", x.redo(), true);
            }
            ask("no more", x.redo(), false);
            ask("the latest", x.about(8), acts);
        }
    }

    @Sentence(in = "Terms 3", says = "Two BOXES (0, 1) keep all that there is.")
    static void twoBoxes() {
        BusRanges x = nested();
        String due = state(x);
        ask("BOX 0", x.image(0), 5);
        x.unplug(0);
        ask("BOX 1", x.image(1), 1);
        ask("BOX 2", x.image(2), NONE);
        ask("BOX -1", x.image(-1), NONE);
        ask("of BOX 0", x.back(0), 5);
        ask("all that there was", state(x).equals(due), true);
        ask("of BOX 1", x.back(1), 1);
        Due.are("one is left", walk(x), 4);
        ask("of BOX 0 again", x.back(0), 5);
        x.unplug(0);
        ask("which stays as it was", x.back(0), 5);
        ask("all of it", state(x).equals(due), true);
    }

    @Sentence(in = "The constants", says = "`NONE = -1`: There is none.")
    static void constant() {
        ask("NONE", BusRanges.NONE, -1);
        ask("there is none", new BusRanges().walk(0), BusRanges.NONE);
    }
}
