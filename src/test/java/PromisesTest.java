/**
 * Promise by promise: ordinary inputs, the edges that the document names, wrong inputs.
 * What is due is worked out by hand from the document.
 */
public final class PromisesTest extends Trees {
    private PromisesTest() {
    }

    public static void main(String[] args) {
        promise1();
        promise2();
        promise3();
        promise4();
        promise5();
        promise6();
        promise7();
        promise8Numbers();
        promise8Order();
        promise8Nested();
        promise8Refused();
        promise8RefusedBridges();
        promise8Kinds();
        promise8Many();
        promise9();
        promise10Endpoint();
        promise10Bridge();
        promise10Wrong();
        promise11();
        promise12();
        promise12Rows();
        promise12Three();
        promise12Apart();
        promise12Kinds();
        promise12Wrong();
        promise13();
        promise14();
        promise15();
        promise16();
        promise17();
        promise18();
        promise19();
        promise20();
        promise21();
        promise22();
        promise23();
        promise24();
        promise25();
        promise26();
        promise27();
        promise28();
        promise29();
        promise30();
        promise31();
        promise32();
        promise33();
        promise34();
        promise35();
        promise36();
        promise37();
        promise38();
        promise39();
        promise40();
        promise41();
        promise42();
        promise43();
        lastCall();
        Due.end();
    }

    // ---- ACTS ----

    private static void promise1() {
        BusRanges x = new BusRanges();
        Due.are("a new object: about", about(x), 0, 0, 0, 0, 0, 0, 0, 0, 256, 256);
        ask("a new object: walk", x.walk(0), NONE);
        ask("a new object: device", x.device(0, 0), -2);
        ask("a new object: undo", x.undo(), false);
        ask("a new object: redo", x.redo(), false);
        ask("a new object: back", x.back(0), NONE);
        ask("NONE", BusRanges.NONE, -1);
        new BusRanges().endpoint(NONE, 0);
        ask("objects share nothing", x.about(0), 0);
    }

    private static void promise2() {
        BusRanges x = new BusRanges();
        ask("the first number", x.endpoint(NONE, 0), 0);
        ask("the last SLOT", x.endpoint(NONE, 7), 1);
        ask("a SLOT that is taken", x.endpoint(NONE, 7), NONE);
        ask("SLOT -1", x.endpoint(NONE, -1), NONE);
        ask("SLOT 8", x.endpoint(NONE, 8), NONE);
        ask("SLOT least", x.endpoint(NONE, LEAST), NONE);
        ask("behind an ENDPOINT", x.endpoint(0, 1), NONE);
        ask("behind none", x.endpoint(2, 1), NONE);
        ask("behind -2", x.endpoint(-2, 1), NONE);
        ask("behind 20", x.endpoint(20, 1), NONE);
        ask("behind most", x.endpoint(MOST, 1), NONE);
        ask("refused ones are no ACTS", x.about(6), 2);
        x.bridge(NONE, 3, 0, 0);
        ask("behind a BRIDGE", x.endpoint(2, 7), 3);
        ask("it is OFF", x.device(3, 3), 0);
        ask("it has no APERTURES", x.device(3, 4), 0);
        x.aperture(0, 0, 3);
        x.unplug(0);
        ask("the lowest number that is not there", x.endpoint(2, 0), 0);
        ask("nothing is left of the one before", x.device(0, 4), 0);
        ask("behind it", x.device(0, 1), 2);
        BusRanges deep = chain();
        ask("behind four", deep.endpoint(3, 1), 5);
        ask("behind five", deep.endpoint(4, 1), NONE);
        x = new BusRanges();
        for (int i = 0; i < 3; i++) {
            x.bridge(NONE, i, 0, 0);
        }
        for (int i = 0; i < 17; i++) {
            ask("one of 20", x.endpoint(i / 8, i % 8), 3 + i);
        }
        ask("one more than 20", x.endpoint(NONE, 7), NONE);
        x.undo();
        ask("that was no ACT", x.about(0), 19);
    }

    private static void promise3() {
        BusRanges x = new BusRanges();
        ask("3 NUMBERS, 128 UNITS", x.bridge(NONE, 0, 3, 128), 0);
        ask("none", x.bridge(NONE, 1, 0, 0), 1);
        ask("4 NUMBERS", x.bridge(NONE, 2, 4, 0), NONE);
        ask("-1 NUMBERS", x.bridge(NONE, 2, -1, 0), NONE);
        ask("129 UNITS", x.bridge(NONE, 2, 0, 129), NONE);
        ask("-1 UNITS", x.bridge(NONE, 2, 0, -1), NONE);
        ask("a SLOT that is taken", x.bridge(NONE, 1, 0, 0), NONE);
        ask("SLOT 8", x.bridge(NONE, 8, 0, 0), NONE);
        ask("behind none", x.bridge(2, 0, 0, 0), NONE);
        ask("refused ones are no ACTS", x.about(6), 2);
        ask("NUMBERS", x.device(0, 5), 3);
        ask("UNITS", x.device(0, 6), 128);
        ask("it is a BRIDGE", x.device(0, 0), 1);
        ask("it is OFF", x.device(0, 3), 0);
        ask("behind a BRIDGE", x.bridge(0, 7, 1, 5), 2);
        endpoint(x, NONE, 4);
        ask("behind an ENDPOINT", x.bridge(3, 0, 0, 0), NONE);
        ask("behind five", chain().bridge(4, 1, 0, 0), NONE);
        x = new BusRanges();
        for (int i = 0; i < 20; i++) {
            ask("one of 20", x.bridge(i < 8 ? NONE : i % 8, i < 8 ? i : i / 8, 0, 0), i);
        }
        ask("one more than 20", x.bridge(7, 7, 0, 0), NONE);
        x.undo();
        ask("that was no ACT", x.about(0), 19);
    }

    private static void promise4() {
        BusRanges x = new BusRanges();
        x.endpoint(NONE, 0);
        x.bridge(NONE, 1, 0, 0);
        ask("e -1", x.aperture(0, 0, -1), NONE);
        ask("e 9", x.aperture(0, 0, 9), NONE);
        ask("e least", x.aperture(0, 0, LEAST), NONE);
        ask("KIND -1", x.aperture(0, -1, 0), NONE);
        ask("KIND 2", x.aperture(0, 2, 0), NONE);
        ask("of a BRIDGE", x.aperture(1, 0, 0), NONE);
        ask("of none", x.aperture(2, 0, 0), NONE);
        ask("of -1", x.aperture(-1, 0, 0), NONE);
        ask("of 20", x.aperture(20, 0, 0), NONE);
        ask("refused ones are no ACTS", x.about(6), 2);
        ask("the first", x.aperture(0, 0, 8), 0);
        ask("the second", x.aperture(0, 1, 0), 1);
        x.powerUp();
        ask("of an ON one", x.aperture(0, 1, 3), NONE);
        x.stop(0);
        ask("the third", x.aperture(0, 1, 3), 2);
        ask("a fourth", x.aperture(0, 0, 0), NONE);
        ask("its units", x.bar(0, 0, 1), 256);
        ask("its units", x.bar(0, 1, 1), 1);
        ask("its units", x.bar(0, 2, 1), 8);
        ask("its KIND", x.bar(0, 0, 0), 0);
        ask("its KIND", x.bar(0, 1, 0), 1);
        ask("its BASE", x.bar(0, 2, 2), NONE);
    }

    private static void promise5() {
        BusRanges x = nested();
        ask("of none", x.unplug(5), NONE);
        ask("of -1", x.unplug(-1), NONE);
        ask("of 20", x.unplug(20), NONE);
        int acts = x.about(6);
        ask("one that is ON", x.unplug(4), 1);
        ask("an ACT", x.about(6), acts + 1);
        ask("what it had is free", x.gap(NONE, 0), 192);
        ask("again", x.unplug(4), NONE);
        ask("a BRIDGE behind a BRIDGE", x.unplug(2), 2);
        ask("its number is free", x.spare(0), 1);
        ask("its WINDOW is free", x.gap(0, 0), 56);
        Due.are("who is left", walk(x), 0, 1);
        ask("what is behind is gone", x.device(3, 0), -2);
        ask("its SLOT is free", x.endpoint(0, 3), 2);
        ask("the outmost", x.unplug(0), 3);
        ask("nothing is left", x.about(0), 0);
        ask("no DEVICE is ON", x.about(2), 0);
    }

    private static void promise6() {
        BusRanges x = nested();
        ask("one that is ON", x.shift(4, NONE, 0), false);
        x.stop(0);
        int acts = x.about(6);
        ask("none", x.shift(5, NONE, 0), false);
        ask("-1", x.shift(-1, NONE, 0), false);
        ask("SLOT 8", x.shift(1, NONE, 8), false);
        ask("SLOT -1", x.shift(1, NONE, -1), false);
        ask("behind an ENDPOINT", x.shift(1, 4, 0), false);
        ask("behind none", x.shift(1, 7, 0), false);
        ask("behind -2", x.shift(1, -2, 0), false);
        ask("taken", x.shift(1, NONE, 5), false);
        ask("taken by itself", x.shift(1, 0, 1), false);
        ask("behind itself", x.shift(0, 0, 0), false);
        ask("behind what is behind itself", x.shift(0, 2, 5), false);
        ask("refused ones are no ACTS", x.about(6), acts);
        ask("with what is behind it", x.shift(2, NONE, 0), true);
        ask("an ACT", x.about(6), acts + 1);
        Due.are("by the WALK", walk(x), 2, 3, 0, 1, 4);
        ask("behind none then", x.device(2, 1), NONE);
        ask("its SLOT", x.device(2, 2), 0);
        ask("what is behind it stays there", x.device(3, 1), 2);
        ask("the SLOT it had is free", x.endpoint(0, 3), 5);
        ask("on the BUS it is on, elsewhere", x.shift(1, 0, 7), true);
        ask("APERTURES go with it", x.device(1, 4), 1);
        BusRanges deep = chain();
        deep.bridge(NONE, 1, 0, 0);
        deep.bridge(5, 0, 0, 0);
        ask("behind five, itself", deep.shift(5, 4, 1), false);
        ask("behind five, what is behind it", deep.shift(5, 3, 1), false);
        ask("behind four, what is behind it", deep.shift(5, 2, 1), true);
        ask("behind an OFF BRIDGE", deep.device(6, 3), 0);
        BusRanges low = new BusRanges();
        low.endpoint(NONE, 0);
        low.bridge(NONE, 1, 0, 0);
        for (int i = 0; i < 4; i++) {
            low.bridge(i == 0 ? NONE : i + 1, 2, 0, 0);
        }
        low.shift(0, 1, 0);
        ask("DEVICE 0 would be behind five", low.shift(1, 5, 1), false);
        ask("DEVICE 0 behind four", low.shift(1, 4, 1), true);
        x = new BusRanges();
        for (int i = 0; i < 6; i++) {
            x.bridge(i % 3 == 0 ? NONE : i - 1, i / 3, 0, 0);
        }
        endpoint(x, 2, 0);
        ask("an ENDPOINT behind four", chain().shift(4, 3, 5), true);
        ask("one behind two, to be behind three", x.shift(2, 5, 0), true);
        ask("what is behind it is behind four", x.device(6, 1), 2);
    }

    private static void promise7() {
        BusRanges x = new BusRanges();
        ask("least", x.space(0, 0), true);
        ask("most", x.space(1, 1024), true);
        ask("too much", x.space(0, 1025), false);
        ask("below 0", x.space(0, -1), false);
        ask("KIND 2", x.space(2, 8), false);
        ask("KIND -1", x.space(-1, 8), false);
        ask("refused ones are no ACTS", x.about(6), 2);
        ask("of KIND 0", x.about(8), 0);
        ask("of KIND 1", x.about(9), 1024);
        x.endpoint(NONE, 0);
        ask("one is OFF", x.space(0, 16), true);
        x.start(0);
        ask("one is ON", x.space(0, 32), false);
        ask("it stays", x.about(8), 16);
        x.stop(0);
        ask("OFF again", x.space(0, 16), true);
        ask("an ACT, too, where it is as it was", x.about(6), 7);
    }

    private static void promise8Numbers() {
        BusRanges x = new BusRanges();
        ask("of none", x.powerUp(), 0);
        ask("an ACT", x.about(6), 1);
        x.bridge(NONE, 2, 1, 0);
        x.bridge(0, 5, 2, 0);
        x.bridge(0, 0, 0, 0);
        x.bridge(NONE, 0, 0, 0);
        ask("four BRIDGES", x.powerUp(), 4);
        Due.are("the first by the WALK", window(x, 3), 1, 1, NONE, 0, NONE, 0);
        Due.are("with two behind it", window(x, 0), 2, 7, NONE, 0, NONE, 0);
        Due.are("the first behind", window(x, 2), 3, 3, NONE, 0, NONE, 0);
        Due.are("the second behind", window(x, 1), 4, 6, NONE, 0, NONE, 0);
        x = new BusRanges();
        for (int i = 0; i < 8; i++) {
            x.bridge(NONE, i, 3, 0);
        }
        x.bridge(7, 0, 3, 0);
        x.bridge(8, 0, 3, 0);
        x.bridge(9, 0, 3, 0);
        endpoint(x, 10, 0);
        endpoint(x, 9, 1);
        ask("numbers run out", x.powerUp(), 11);
        ask("31 at most", x.window(7, 1), 31);
        ask("the last but one", x.window(8, 0), 30);
        ask("the last number", x.window(9, 0), 31);
        ask("its RANGE", x.window(9, 1), 31);
        ask("without a number", x.device(10, 3), 0);
        ask("behind it", x.device(11, 3), 0);
        ask("beside it", x.device(12, 3), 1);
        ask("it is not REFUSED", x.about(5), 0);
        ask("the last on the HOST's BUS", x.window(6, 1), 28);
        x.unplug(0);
        ask("again, from 1 on", x.powerUp(), 12);
        ask("all are numbered anew", x.window(1, 0), 1);
        ask("none is left out", x.window(10, 0), 28);
    }

    private static void promise8Order() {
        BusRanges x = new BusRanges();
        endpoint(x, NONE, 0, 0, 1, 0, 3, 0, 1);
        endpoint(x, NONE, 1, 0, 3);
        x.bridge(NONE, 2, 0, 1);
        ask("a WINDOW and APERTURES", x.powerUp(), 3);
        Due.are("greater ALIGN first", window(x, 2), 1, 1, 0, 16, 0, 16);
        Due.are("then by SLOT, then by number", bases(x, 0), 32, 16, 34);
        Due.are("the second SLOT", bases(x, 1), 24);
        x = new BusRanges();
        x.bridge(NONE, 0, 0, 0);
        endpoint(x, 0, 0, 0, 6);
        endpoint(x, NONE, 1, 0, 5);
        x.bridge(NONE, 2, 0, 80);
        endpoint(x, NONE, 3, 0, 4);
        x.powerUp();
        ask("a WINDOW's ALIGN is the greatest behind", x.window(0, 2), 0);
        ask("then that of 32", x.bar(2, 0, 2), 64);
        ask("of ALIGN 16 the greater first", x.window(3, 2), 96);
        ask("then the other", x.bar(4, 0, 2), 176);
        x = new BusRanges();
        x.bridge(NONE, 0, 0, 0);
        endpoint(x, 0, 0, 0, 6);
        endpoint(x, 0, 1, 0, 0);
        endpoint(x, NONE, 1, 0, 6);
        x.powerUp();
        ask("a WINDOW of 65 units and more", x.window(0, 3), 80);
        ask("at the least multiple behind it", x.bar(3, 0, 2), 128);
        x = new BusRanges();
        x.bridge(NONE, 3, 0, 16);
        endpoint(x, NONE, 2, 0, 4);
        endpoint(x, NONE, 4, 0, 4);
        x.powerUp();
        ask("like ones by SLOT, first", x.bar(1, 0, 2), 0);
        ask("like ones by SLOT, second", x.window(0, 2), 16);
        ask("like ones by SLOT, third", x.bar(2, 0, 2), 32);
        x = new BusRanges();
        x.space(1, 1024);
        x.bridge(NONE, 0, 0, 0);
        endpoint(x, 0, 0, 1, 6, 1, 0);
        x.bridge(NONE, 1, 0, 80);
        endpoint(x, NONE, 2, 1, 6);
        x.powerUp();
        Due.are("KIND 1: of ALIGN 64 the greater", window(x, 0), 1, 1, NONE, 0, 0, 80);
        ask("KIND 1: the other of ALIGN 64", x.bar(3, 0, 2), 128);
        ask("KIND 1: of ALIGN 16, though as great", x.window(2, 4), 192);
    }

    private static void promise8Nested() {
        BusRanges x = nested();
        Due.are("the WINDOWS of the outer", window(x, 0), 1, 2, 0, 64, 64, 32);
        Due.are("of the inner", window(x, 2), 2, 2, 0, 32, 64, 16);
        Due.are("on the inner BUS", bases(x, 3), 0, 64);
        Due.are("on the outer BUS", bases(x, 1), 32);
        Due.are("on the HOST's BUS", bases(x, 4), 64, 0);
        x = new BusRanges();
        endpoint(x, NONE, 0, 0, 7);
        x.bridge(NONE, 1, 0, 0);
        endpoint(x, 1, 0, 0, 2);
        x.bridge(1, 1, 0, 0);
        endpoint(x, 3, 0, 0, 6, 1, 0);
        x.powerUp();
        Due.are("from where the WINDOW begins", window(x, 3), 2, 2, 128, 64, 0, 16);
        Due.are("ahead of the smaller", bases(x, 2), 192);
        ask("its WINDOW", x.window(1, 3), 80);
        x.stop(4);
        x.unplug(4);
        x.powerUp();
        Due.are("none where nothing is", window(x, 3), 2, 2, NONE, 0, NONE, 0);
    }

    private static void promise8Refused() {
        BusRanges x = new BusRanges();
        x.space(0, 32);
        endpoint(x, NONE, 5, 0, 4);
        endpoint(x, NONE, 3, 0, 4);
        endpoint(x, NONE, 0, 0, 3);
        ask("one too many", x.powerUp(), 2);
        Due.are("of like ones the first by the WALK", refused(x), 1);
        Due.are("it has no BASE", bases(x, 1), NONE);
        Due.are("the others are laid", bases(x, 0), 0);
        Due.are("behind that", bases(x, 2), 16);
        x.stop(0);
        x.stop(2);
        x.space(0, 40);
        ask("just enough", x.powerUp(), 3);
        ask("none is REFUSED", x.about(5), 0);
        x = new BusRanges();
        x.space(0, 31);
        endpoint(x, NONE, 0, 0, 4);
        endpoint(x, NONE, 1, 0, 3, 0, 3, 0, 2);
        endpoint(x, NONE, 2, 1, 8);
        x.powerUp();
        Due.are("all units of the KIND count, the other KIND's don't", refused(x), 1);
        x = new BusRanges();
        x.space(0, 0);
        endpoint(x, NONE, 0, 0, 0);
        endpoint(x, NONE, 1, 0, 2);
        endpoint(x, NONE, 2, 0, 1);
        endpoint(x, NONE, 3, 1, 1);
        ask("no SPACE at all", x.powerUp(), 1);
        Due.are("one by one, the greatest first", refused(x), 1, 2, 0);
        x = new BusRanges();
        x.space(0, 16);
        x.bridge(NONE, 0, 0, 0);
        endpoint(x, 0, 0, 0, 0);
        endpoint(x, NONE, 1, 0, 0);
        ask("what is behind a BRIDGE counts", x.powerUp(), 2);
        Due.are("though it is small", refused(x), 1);
    }

    private static void promise8RefusedBridges() {
        BusRanges x = new BusRanges();
        x.space(0, 32);
        x.bridge(NONE, 4, 0, 20);
        x.bridge(NONE, 1, 0, 20);
        x.bridge(1, 0, 1, 0);
        endpoint(x, 2, 0);
        ask("BRIDGES where no ENDPOINT has units", x.powerUp(), 1);
        Due.are("the first by the WALK, alone", refused(x), 1);
        Due.are("the other keeps its number", window(x, 0), 4, 4, 0, 32, 0, 32);
        ask("what is behind it is OFF", x.device(3, 3), 0);
        ask("so is the BRIDGE", x.device(2, 3), 0);
        ask("numbers of those that are OFF are free", x.spare(NONE), 30);
        x = new BusRanges();
        x.space(0, 32);
        x.bridge(NONE, 0, 0, 17);
        x.bridge(NONE, 1, 0, 18);
        endpoint(x, 0, 0, 0, 0);
        ask("an ENDPOINT ahead of BRIDGES", x.powerUp(), 1);
        Due.are("then the one that leaves most", refused(x), 2, 1);
        x = new BusRanges();
        x.bridge(NONE, 0, 0, 100);
        x.bridge(0, 0, 0, 120);
        x.bridge(NONE, 1, 0, 110);
        ask("an inner one goes by itself", x.powerUp(), 2);
        Due.are("as it leaves most", refused(x), 1);
        ask("what is around it is smaller then", x.window(0, 3), 112);
    }

    private static void promise8Kinds() {
        BusRanges x = new BusRanges();
        x.space(0, 8);
        x.space(1, 8);
        endpoint(x, NONE, 0, 1, 4);
        endpoint(x, NONE, 1, 0, 4);
        endpoint(x, NONE, 2, 0, 2, 1, 3);
        endpoint(x, NONE, 3, 1, 2);
        ask("both KINDS are short", x.powerUp(), 1);
        Due.are("KIND 0 first", refused(x), 1, 0, 2);
        x = new BusRanges();
        x.space(1, 0);
        x.bridge(NONE, 0, 0, 1);
        endpoint(x, NONE, 1, 0, 4);
        x.powerUp();
        Due.are("a WINDOW of KIND 1", refused(x), 0);
        Due.are("the other goes first then", bases(x, 1), 0);
    }

    private static void promise8Many() {
        BusRanges x = new BusRanges();
        x.space(0, 0);
        x.bridge(NONE, 0, 0, 1);
        x.bridge(NONE, 1, 0, 1);
        for (int i = 2; i < 20; i++) {
            endpoint(x, i < 10 ? 0 : i < 18 ? 1 : NONE, i < 18 ? (i - 2) % 8 : i - 14, 0, 0);
        }
        ask("all 20 are too many", x.powerUp(), 0);
        Due.are("ENDPOINTS, then BRIDGES", refused(x),
                2, 3, 4, 5, 6, 7, 8, 9, 10, 11, 12, 13, 14, 15, 16, 17, 18, 19, 0, 1);
        x = new BusRanges();
        x.space(0, 24);
        for (int i = 0; i < 8; i++) {
            endpoint(x, NONE, i, 0, 0, 0, 0, 0, 0);
        }
        ask("24 THINGS on a BUS", x.powerUp(), 8);
        Due.are("the last ones", bases(x, 7), 21, 22, 23);
        ask("no unit is left", x.gap(NONE, 0), 0);
        x.stop(3);
        ask("START among them", x.start(3), 3);
        Due.are("where it was", bases(x, 3), 9, 10, 11);
        x = new BusRanges();
        x.bridge(NONE, 7, 0, 0);
        x.start(0);
        for (int i = 0; i < 7; i++) {
            x.bridge(NONE, i, 3, 0);
        }
        x.bridge(1, 0, 3, 0);
        ask("first all are OFF", x.powerUp(), 8);
        ask("one that was ON has no number then", x.window(0, 0), -2);
    }

    private static void promise9() {
        BusRanges x = new BusRanges();
        ask("before any POWER-UP", x.refused(0), NONE);
        x.space(0, 0);
        endpoint(x, NONE, 0, 0, 0);
        endpoint(x, NONE, 1, 0, 1);
        x.powerUp();
        ask("the first", x.refused(0), 1);
        ask("the second", x.refused(1), 0);
        ask("a third", x.refused(2), NONE);
        ask("the -1st", x.refused(-1), NONE);
        ask("the 20th", x.refused(20), NONE);
        ask("most", x.refused(MOST), NONE);
        ask("least", x.refused(LEAST), NONE);
        x.unplug(1);
        ask("unplugged since", x.refused(0), 1);
        x.space(0, 8);
        x.start(0);
        ask("started since", x.refused(1), 0);
        x.powerUp();
        ask("the latest POWER-UP alone", x.refused(0), NONE);
        x.undo();
        ask("as it was, too", x.refused(1), 0);
    }

    private static void promise10Endpoint() {
        BusRanges x = new BusRanges();
        x.space(0, 32);
        x.space(1, 4);
        endpoint(x, NONE, 0, 0, 1, 0, 3, 0, 1);
        ask("how many APERTURES", x.start(0), 3);
        Due.are("the greater first, of like ones the first", bases(x, 0), 8, 0, 10);
        endpoint(x, NONE, 1, 0, 2, 1, 2);
        ask("of both KINDS", x.start(1), 2);
        Due.are("the lowest multiple", bases(x, 1), 12, 0);
        endpoint(x, NONE, 2, 0, 4);
        ask("just room", x.start(2), 1);
        Due.are("up to the end of the SPACE", bases(x, 2), 16);
        x.stop(0);
        endpoint(x, NONE, 3, 0, 2, 0, 2, 0, 0);
        ask("the gap has 12 units", x.start(3), 3);
        Due.are("into gaps", bases(x, 3), 0, 4, 8);
        ask("no room", x.start(0), -4);
        ask("it is OFF still", x.device(0, 3), 0);
        Due.are("it has none", bases(x, 0), NONE, NONE, NONE);
        endpoint(x, NONE, 4, 0, 0, 1, 0);
        ask("no room for the second KIND", x.start(4), -4);
        Due.are("nor the first then", bases(x, 4), NONE, NONE);
        endpoint(x, NONE, 5);
        ask("no APERTURES", x.start(5), 0);
        ask("it is ON", x.device(5, 3), 1);
        ask("all others stay", x.bar(1, 0, 2), 12);
        x.undo();
        ask("an ACT", x.device(5, 3), 0);
    }

    private static void promise10Bridge() {
        BusRanges x = new BusRanges();
        x.bridge(NONE, 0, 2, 17);
        x.bridge(0, 0, 3, 1);
        endpoint(x, 0, 1, 0, 3);
        ask("behind an OFF BRIDGE", x.start(1), -2);
        ask("the first number", x.start(0), 1);
        Due.are("its WINDOWS", window(x, 0), 1, 3, 0, 32, 0, 32);
        ask("what is behind it stays OFF", x.about(2), 1);
        ask("not the first one of the RANGE", x.start(1), 2);
        Due.are("as many as are free", window(x, 1), 2, 3, 0, 16, 0, 16);
        ask("within the WINDOW", x.start(2), 1);
        Due.are("behind the other WINDOW", bases(x, 2), 16);
        x.bridge(0, 2, 0, 0);
        ask("no number, ahead of", x.start(3), -3);
        x.bridge(NONE, 1, 0, 0);
        ask("the number behind the RANGE", x.start(4), 4);
        Due.are("no WINDOWS", window(x, 4), 4, 4, NONE, 0, NONE, 0);
        x.bridge(4, 0, 0, 0);
        ask("no number in a RANGE of one", x.start(5), -3);
        x.stop(0);
        x.bridge(NONE, 2, 1, 128);
        ask("a number that is free again", x.start(6), 1);
        Due.are("as many as it leaves", window(x, 6), 1, 2, 0, 128, 0, 128);
        ask("one of the gap", x.start(0), 3);
        Due.are("no more are free there", window(x, 0), 3, 3, 128, 32, 128, 32);
        x.bridge(NONE, 3, 0, 128);
        ask("a number, but no room", x.start(7), -4);
        ask("nothing is done", x.device(7, 3), 0);
        x = new BusRanges();
        endpoint(x, NONE, 0, 1, 0);
        x.start(0);
        x.bridge(NONE, 1, 0, 15);
        x.start(1);
        Due.are("a multiple of 16", window(x, 1), 1, 1, 0, 16, 16, 16);
        ask("it is NONE again", x.start(1), NONE);
        x.stop(1);
        x.stop(0);
        x.space(1, 16);
        x.start(0);
        ask("no room of KIND 1", x.start(1), -4);
        x = new BusRanges();
        for (int i = 0; i < 8; i++) {
            x.bridge(NONE, i, 3, 0);
            x.start(i);
        }
        x.bridge(7, 0, 0, 0);
        x.bridge(7, 1, 1, 0);
        ask("the last but one number", x.start(8), 30);
        ask("the last number", x.start(9), 31);
        ask("its RANGE", x.window(9, 1), 31);
    }

    private static void promise10Wrong() {
        BusRanges x = new BusRanges();
        ask("none", x.start(0), NONE);
        ask("-1", x.start(-1), NONE);
        ask("20", x.start(20), NONE);
        ask("least", x.start(LEAST), NONE);
        x.bridge(NONE, 0, 0, 0);
        endpoint(x, 0, 0, 0, 0);
        ask("its BUS is OFF", x.start(1), -2);
        x.start(0);
        ask("it is ON", x.start(0), NONE);
        ask("its BUS has no WINDOW", x.start(1), -4);
        ask("refused ones are no ACTS", x.about(6), 4);
    }

    private static void promise11() {
        BusRanges x = nested();
        ask("none", x.stop(5), NONE);
        ask("-1", x.stop(-1), NONE);
        ask("20", x.stop(20), NONE);
        ask("one", x.stop(3), 1);
        ask("it is OFF", x.stop(3), NONE);
        ask("its room is free", x.gap(2, 0), 32);
        int acts = x.about(6);
        ask("what is OFF already does not count", x.stop(0), 3);
        ask("an ACT", x.about(6), acts + 1);
        ask("behind it", x.device(1, 3), 0);
        ask("its RANGE is free", x.spare(NONE), 31);
        ask("its WINDOW is free", x.gap(NONE, 0), 252);
        ask("no RANGE", x.window(0, 0), -2);
        ask("no BASE", x.bar(1, 0, 2), NONE);
        ask("the other stays", x.bar(4, 0, 2), 64);
    }

    private static void promise12() {
        BusRanges x = new BusRanges();
        x.space(0, 16);
        for (int i = 0; i < 4; i++) {
            endpoint(x, NONE, i, 0, 2);
            x.start(i);
        }
        x.stop(0);
        x.stop(2);
        endpoint(x, NONE, 4, 0, 3);
        ask("START moves none", x.start(4), -4);
        ask("place() moves none", x.place(4), -2);
        ask("one moves", x.rebalance(4), 1);
        Due.are("of like rows the first", bases(x, 1), 8);
        Due.are("the ENDPOINT is ON", bases(x, 4), 0);
        Due.are("the other stays", bases(x, 3), 12);
        ask("it is ON", x.device(4, 3), 1);
        ask("there is no room more", x.rebalance(0), -4);
        x.undo();
        Due.are("one ACT", bases(x, 1), 4);
        x = new BusRanges();
        x.space(0, 16);
        for (int i = 0; i < 8; i++) {
            endpoint(x, NONE, 7 - i, 0, 1);
            x.start(i);
        }
        x.stop(0);
        x.stop(2);
        x.stop(4);
        x.stop(6);
        x.unplug(0);
        x.endpoint(NONE, 7);
        x.aperture(0, 0, 3);
        ask("two move, the lowest SLOTS", x.rebalance(0), 2);
        Due.are("its own", bases(x, 0), 8);
        Due.are("SLOT 0: from 14", bases(x, 7), 0);
        Due.are("SLOT 2: from 10", bases(x, 5), 4);
        Due.are("SLOT 4 stays", bases(x, 3), 6);
        Due.are("SLOT 6 stays", bases(x, 1), 2);
        ask("none has to move", endpointWithRoom(), 0);
    }

    private static int endpointWithRoom() {
        BusRanges x = new BusRanges();
        endpoint(x, NONE, 0, 0, 2);
        x.start(0);
        endpoint(x, NONE, 1, 0, 0, 0, 4, 1, 1);
        int answer = x.rebalance(1);
        Due.are("as START would", bases(x, 1), 4, 16, 0);
        return answer;
    }

    /**
     * A SPACE of 32, APERTURES of 4 at 0, 4 .. 28 in SLOTS 0 .. 7, of which those of SLOTS 0, 3, 5
     * and 6 are stopped: free are 0 .. 3, 12 .. 15 and 20 .. 27.
     */
    private static void promise12Rows() {
        BusRanges x = new BusRanges();
        x.space(0, 32);
        for (int i = 0; i < 8; i++) {
            endpoint(x, NONE, i, 0, 2);
            x.start(i);
        }
        x.stop(0);
        x.stop(3);
        x.stop(5);
        x.stop(6);
        x.aperture(0, 0, 2);
        x.aperture(0, 0, 3);
        ask("16 units, all that is free", x.moves(0), 1);
        x.unplug(3);
        endpoint(x, NONE, 3, 0, 4);
        ask("three move or two", x.rebalance(3), 2);
        Due.are("the greatest", bases(x, 3), 0);
        Due.are("of those in its way, the first", bases(x, 1), 20);
        Due.are("the second", bases(x, 2), 24);
        Due.are("not this one", bases(x, 4), 16);
        Due.are("nor this one", bases(x, 7), 28);
        x = new BusRanges();
        x.space(0, 32);
        for (int i = 0; i < 8; i++) {
            endpoint(x, NONE, i, 0, 1, 0, 1);
            x.start(i);
        }
        for (int i = 1; i < 8; i += 2) {
            x.stop(i);
        }
        x.unplug(1);
        endpoint(x, NONE, 1, 0, 4);
        ask("four would have to move", x.rebalance(1), -4);
        ask("nothing is done", x.device(1, 3), 0);
        x.unplug(0);
        ask("two of one ENDPOINT would do", x.moves(1), 2);
        x.unplug(1);
        endpoint(x, NONE, 0, 0, 2, 0, 2, 0, 2);
        ask("without any", x.moves(0), 0);
        x = new BusRanges();
        x.space(0, 16);
        x.bridge(NONE, 0, 0, 8);
        x.space(1, 32);
        x.space(0, 32);
        endpoint(x, NONE, 1, 0, 2);
        x.start(1);
        x.start(0);
        endpoint(x, NONE, 2, 0, 4);
        ask("a WINDOW stays", x.rebalance(2), -4);
        ask("though there is room of the other KIND", x.gap(NONE, 1), 16);
    }

    /**
     * A SPACE of 24. APERTURES of 1 by START: DEVICE 0 at 0, 1; 1 at 2 .. 4; 2 at 5 .. 7; 3 at
     * 8 .. 10; 4 at 11 .. 13; 5 at 14, 15; 6 at 16 .. 18; then 0, 1 and 5 are stopped. For 8 units
     * three must move: those of 2, or those of 6; not those of 3, which are in SLOT 1.
     */
    private static BusRanges three(int slotOf2, int slotOf6) {
        BusRanges x = new BusRanges();
        x.space(0, 24);
        int[] slots = {2, 3, slotOf2, 1, 6, 7, slotOf6};
        for (int i = 0; i < 7; i++) {
            x.endpoint(NONE, slots[i]);
            for (int a = i == 0 || i == 5 ? 1 : 0; a < 3; a++) {
                x.aperture(i, 0, 0);
            }
            x.start(i);
        }
        x.stop(0);
        x.stop(1);
        x.stop(5);
        endpoint(x, NONE, 0, 0, 3);
        return x;
    }

    private static void promise12Three() {
        BusRanges x = three(5, 4);
        ask("START moves none", x.start(7), -4);
        ask("place() moves none", x.place(7), -2);
        ask("three must", x.moves(7), 3);
        ask("three do", x.rebalance(7), 3);
        Due.are("those of SLOT 4", bases(x, 6), 0, 1, 2);
        Due.are("not those of SLOT 5", bases(x, 2), 5, 6, 7);
        Due.are("its own", bases(x, 7), 16);
        x = three(4, 5);
        ask("the other way", x.rebalance(7), 3);
        Due.are("those of SLOT 4 again", bases(x, 2), 14, 15, 19);
        Due.are("not those of SLOT 5 again", bases(x, 6), 16, 17, 18);
        x = new BusRanges();
        x.space(0, 24);
        endpoint(x, NONE, 2, 0, 2);
        endpoint(x, NONE, 4, 0, 1);
        endpoint(x, NONE, 5, 0, 1);
        endpoint(x, NONE, 1, 0, 2);
        endpoint(x, NONE, 3, 0, 1);
        endpoint(x, NONE, 6, 0, 1);
        endpoint(x, NONE, 7, 0, 0, 0, 0, 0, 0);
        for (int i = 0; i < 7; i++) {
            x.start(i);
        }
        x.stop(2);
        x.stop(5);
        endpoint(x, NONE, 0, 0, 3);
        ask("SLOTS 1 and 3 ahead of 2 and 4", x.rebalance(7), 2);
        Due.are("of SLOT 1, the greater", bases(x, 3), 20);
        Due.are("of SLOT 3", bases(x, 4), 6);
        Due.are("of SLOT 2", bases(x, 0), 0);
        Due.are("its own", bases(x, 7), 8);
    }

    /**
     * A SPACE of 24. SLOT 1 has 0 .. 2, 3 has 3 .. 5, 5 has 4 units at 8, 2 at 12, 1 at 14, and SLOTS
     * 2, 4 and 6 have one each at 16 .. 18; what was at 6, 7 and 15 is gone.
     */
    private static void promise12Apart() {
        BusRanges x = new BusRanges();
        x.space(0, 24);
        endpoint(x, NONE, 1, 0, 0, 0, 0, 0, 0);
        endpoint(x, NONE, 3, 0, 0, 0, 0, 0, 0);
        endpoint(x, NONE, 7, 0, 1);
        endpoint(x, NONE, 5, 0, 2, 0, 1, 0, 0);
        for (int i = 0; i < 4; i++) {
            x.start(i);
        }
        endpoint(x, NONE, 0, 0, 0);
        x.start(4);
        for (int slot = 2; slot < 7; slot += 2) {
            x.start(endpoint(x, NONE, slot, 0, 0));
        }
        x.stop(2);
        x.unplug(4);
        endpoint(x, NONE, 0, 0, 3);
        ask("three of as many SLOTS, ahead of those of SLOT 5", x.rebalance(4), 3);
        Due.are("SLOT 2", bases(x, 5), 6);
        Due.are("SLOT 4", bases(x, 6), 7);
        Due.are("SLOT 6", bases(x, 7), 15);
        Due.are("SLOT 5 stays", bases(x, 3), 8, 12, 14);
    }

    private static void promise12Kinds() {
        BusRanges x = new BusRanges();
        x.space(0, 8);
        x.space(1, 8);
        for (int i = 0; i < 4; i++) {
            endpoint(x, NONE, i, 0, 1, 1, 1);
            x.start(i);
        }
        x.stop(1);
        x.stop(3);
        endpoint(x, NONE, 4, 0, 2, 1, 2);
        ask("one of each KIND", x.rebalance(4), 2);
        Due.are("both move", bases(x, 0), 6, 6);
        Due.are("both are laid", bases(x, 4), 0, 0);
        x.undo();
        x.unplug(3);
        endpoint(x, NONE, 3, 1, 1);
        x.start(3);
        ask("one KIND has no way", x.rebalance(4), -4);
        Due.are("nor does the other move then", bases(x, 0), 0, 0);
        x = new BusRanges();
        x.space(0, 8);
        endpoint(x, NONE, 6, 0, 1);
        x.start(0);
        endpoint(x, NONE, 5, 0, 1);
        x.start(1);
        endpoint(x, NONE, 7, 0, 2);
        x.start(2);
        x.stop(1);
        x.unplug(1);
        endpoint(x, NONE, 5, 0, 0, 0, 0);
        ask("into the gap", x.rebalance(1), 0);
        Due.are("one behind the other", bases(x, 1), 2, 3);
    }

    private static void promise12Wrong() {
        BusRanges x = new BusRanges();
        ask("none", x.rebalance(0), NONE);
        ask("-1", x.rebalance(-1), NONE);
        ask("20", x.rebalance(20), NONE);
        x.bridge(NONE, 0, 0, 0);
        ask("a BRIDGE", x.rebalance(0), NONE);
        endpoint(x, 0, 0, 0, 0);
        ask("its BUS is OFF", x.rebalance(1), -2);
        x.start(0);
        ask("no WINDOW there", x.rebalance(1), -4);
        endpoint(x, 0, 1);
        ask("nothing to lay", x.rebalance(2), 0);
        ask("it is ON", x.rebalance(2), NONE);
        ask("refused ones are no ACTS", x.about(6), 6);
    }

    private static void promise13() {
        BusRanges x = new BusRanges();
        x.space(0, 8);
        for (int i = 0; i < 4; i++) {
            endpoint(x, NONE, i, 0, 1);
            x.start(i);
        }
        x.stop(1);
        x.stop(2);
        endpoint(x, NONE, 4, 0, 2);
        int acts = x.about(6);
        ask("one would", x.moves(4), 1);
        ask("nothing is done", x.about(6), acts);
        ask("it is OFF", x.device(4, 3), 0);
        Due.are("nothing is moved", bases(x, 0), 0);
        ask("none would", x.moves(1), 0);
        x.start(1);
        x.start(2);
        ask("no way", x.moves(4), -4);
        ask("it is ON", x.moves(1), NONE);
        ask("none such", x.moves(5), NONE);
        ask("-1", x.moves(-1), NONE);
        x.bridge(NONE, 5, 0, 0);
        endpoint(x, 5, 0);
        ask("a BRIDGE", x.moves(5), NONE);
        ask("its BUS is OFF", x.moves(6), -2);
    }

    // ---- What is there ----

    private static void promise14() {
        BusRanges x = nested();
        x.bridge(2, 6, 2, 99);
        int[] bridge = {1, 2, 6, 0, 0, 2, 99};
        int[] endpoint = {0, 2, 0, 1, 2, 0, 0};
        for (int what = 0; what < 7; what++) {
            ask("of a BRIDGE what " + what, x.device(5, what), bridge[what]);
            ask("of an ENDPOINT what " + what, x.device(3, what), endpoint[what]);
        }
        ask("on the HOST's BUS", x.device(0, 1), NONE);
        ask("an ON BRIDGE", x.device(0, 3), 1);
        ask("what 7", x.device(0, 7), -2);
        ask("what -1", x.device(0, -1), -2);
        ask("none", x.device(6, 0), -2);
        ask("-1", x.device(-1, 0), -2);
        ask("20", x.device(20, 0), -2);
        ask("most", x.device(MOST, 1), -2);
    }

    private static void promise15() {
        BusRanges x = nested();
        ask("KIND", x.bar(3, 0, 0), 0);
        ask("KIND of the second", x.bar(3, 1, 0), 1);
        ask("units", x.bar(3, 0, 1), 32);
        ask("units of the second", x.bar(3, 1, 1), 4);
        ask("BASE", x.bar(4, 0, 2), 64);
        x.stop(4);
        ask("BASE of an OFF one", x.bar(4, 0, 2), NONE);
        ask("units of an OFF one", x.bar(4, 0, 1), 4);
        ask("what 3", x.bar(3, 0, 3), -2);
        ask("what -1", x.bar(3, 0, -1), -2);
        ask("the third", x.bar(3, 2, 0), -2);
        ask("the -1st", x.bar(3, -1, 0), -2);
        ask("of a BRIDGE", x.bar(0, 0, 0), -2);
        ask("of none", x.bar(5, 0, 0), -2);
        ask("of -1", x.bar(-1, 0, 0), -2);
    }

    private static void promise16() {
        BusRanges x = nested();
        Due.are("all of it", window(x, 0), 1, 2, 0, 64, 64, 32);
        ask("what 6", x.window(0, 6), -2);
        ask("what -1", x.window(0, -1), -2);
        ask("of an ENDPOINT", x.window(1, 0), -2);
        ask("of none", x.window(5, 0), -2);
        ask("of -1", x.window(-1, 0), -2);
        x.stop(2);
        ask("of an OFF one", x.window(2, 0), -2);
        x.start(2);
        Due.are("none of either KIND", window(x, 2), 2, 2, NONE, 0, NONE, 0);
    }

    private static void promise17() {
        BusRanges x = nested();
        ask("the HOST's", x.bus(0), 0);
        ask("behind one", x.bus(2), 1);
        ask("behind two", x.bus(3), 2);
        x.stop(3);
        ask("itself OFF", x.bus(3), 2);
        x.stop(2);
        ask("its BUS OFF", x.bus(3), NONE);
        x.stop(0);
        ask("OFF on the HOST's", x.bus(0), 0);
        ask("none", x.bus(5), NONE);
        ask("-1", x.bus(-1), NONE);
        ask("20", x.bus(20), NONE);
    }

    private static void promise18() {
        BusRanges x = nested();
        ask("on the HOST's", x.find(0, 5), 4);
        ask("on BUS 1", x.find(1, 3), 2);
        ask("on BUS 2", x.find(2, 0), 3);
        ask("a SLOT that is free", x.find(1, 0), NONE);
        ask("SLOT 8", x.find(0, 8), NONE);
        ask("SLOT -1", x.find(0, -1), NONE);
        ask("BUS 3", x.find(3, 0), NONE);
        ask("BUS -1", x.find(-1, 5), NONE);
        ask("BUS 32", x.find(32, 0), NONE);
        x.stop(3);
        ask("one that is OFF", x.find(2, 0), 3);
        x.stop(2);
        ask("on a BUS that is OFF", x.find(2, 0), NONE);
        x = new BusRanges();
        x.bridge(NONE, 0, 3, 0);
        x.endpoint(0, 0);
        x.start(0);
        ask("not the first number of a RANGE", x.find(2, 0), NONE);
        ask("the first", x.find(1, 0), 1);
    }

    private static void promise19() {
        BusRanges x = nested();
        Due.are("a BRIDGE ahead of what is behind it", walk(x), 0, 1, 2, 3, 4);
        x.endpoint(NONE, 0);
        x.endpoint(2, 7);
        x.endpoint(0, 7);
        Due.are("SLOT by SLOT", walk(x), 5, 0, 1, 2, 3, 6, 7, 4);
        ask("the 8th", x.walk(8), NONE);
        ask("the -1st", x.walk(-1), NONE);
        ask("the 20th", x.walk(20), NONE);
        ask("most", x.walk(MOST), NONE);
        Due.are("down to the fifth BUS", walk(chain()), 0, 1, 2, 3, 4);
    }

    // ---- Where an address goes ----

    private static void promise20() {
        BusRanges x = nested();
        ask("by two WINDOWS", x.owner(0, 0), 3);
        ask("its last unit", x.owner(0, 31), 3);
        ask("by one WINDOW", x.owner(0, 32), 1);
        ask("its last unit", x.owner(0, 39), 1);
        ask("in a WINDOW alone", x.owner(0, 40), NONE);
        ask("on the HOST's BUS", x.owner(0, 64), 4);
        ask("its last unit", x.owner(0, 67), 4);
        ask("behind it", x.owner(0, 68), NONE);
        ask("KIND 1", x.owner(1, 63), 4);
        ask("KIND 1 by two WINDOWS", x.owner(1, 67), 3);
        ask("KIND 1 in two WINDOWS", x.owner(1, 68), NONE);
        ask("address -1", x.owner(0, -1), NONE);
        ask("address least", x.owner(0, LEAST), NONE);
        ask("address most", x.owner(0, MOST), NONE);
        ask("KIND 2", x.owner(2, 0), NONE);
        ask("KIND -1", x.owner(-1, 0), NONE);
        x.stop(3);
        ask("of one that is OFF", x.owner(0, 0), NONE);
        x = deep();
        ask("by four WINDOWS", x.owner(0, 19), 5);
        ask("by five, to none", x.owner(0, 0), NONE);
    }

    private static void promise21() {
        BusRanges x = nested();
        ask("on the HOST's BUS", x.way(0, 64), 0);
        ask("by one", x.way(0, 32), 1);
        ask("by two", x.way(0, 31), 2);
        ask("by one, to none", x.way(0, 63), 1);
        ask("by two, to none", x.way(1, 79), 2);
        ask("by one, behind it", x.way(1, 80), 1);
        ask("in no THING", x.way(0, 68), NONE);
        ask("address -1", x.way(0, -1), NONE);
        ask("address most", x.way(1, MOST), NONE);
        ask("KIND 2", x.way(2, 0), NONE);
        ask("KIND -1", x.way(-1, 0), NONE);
        x.stop(0);
        ask("none is there", x.way(0, 0), NONE);
        x = deep();
        ask("by four", x.way(0, 16), 4);
        ask("by five", x.way(0, 15), 5);
        ask("by four, to none", x.way(0, 20), 4);
    }

    private static int[] peer(BusRanges x, int device, int kind, int address) {
        return new int[] {x.peer(device, kind, address, 0), x.peer(device, kind, address, 1),
            x.peer(device, kind, address, 2)};
    }

    private static void promise22() {
        BusRanges x = nested();
        Due.are("to itself", peer(x, 3, 0, 31), 3, 0, 2);
        Due.are("up one", peer(x, 3, 0, 32), 1, 1, 1);
        Due.are("up two", peer(x, 3, 0, 64), 4, 2, 0);
        Due.are("down one", peer(x, 1, 0, 0), 3, 1, 1);
        Due.are("down two", peer(x, 4, 1, 64), 3, 2, 0);
        Due.are("in the WINDOW it is behind", peer(x, 1, 0, 40), NONE, 0, 1);
        Due.are("up one, in its WINDOW", peer(x, 3, 0, 40), NONE, 1, 1);
        Due.are("down two, to none", peer(x, 4, 1, 70), NONE, 2, 0);
        Due.are("up to the HOST's, to none", peer(x, 3, 0, 200), NONE, 2, 0);
        Due.are("address -1", peer(x, 1, 0, -1), NONE, 1, 0);
        Due.are("address most", peer(x, 4, 0, MOST), NONE, 0, 0);
        Due.are("from a BRIDGE's BUS", peer(x, 2, 0, 0), 3, 1, 1);
        ask("what 3", x.peer(1, 0, 0, 3), -2);
        ask("what -1", x.peer(1, 0, 0, -1), -2);
        ask("KIND 2", x.peer(1, 2, 0, 0), -2);
        ask("KIND -1", x.peer(1, -1, 0, 0), -2);
        ask("none", x.peer(5, 0, 0, 0), -2);
        ask("-1", x.peer(-1, 0, 0, 0), -2);
        x.bridge(NONE, 6, 0, 0);
        endpoint(x, 5, 0);
        ask("its BUS is OFF", x.peer(6, 0, 0, 0), -2);
        x.start(5);
        Due.are("itself OFF, up and down", peer(x, 6, 0, 5), 3, 3, 0);
        Due.are("up and down one", peer(x, 6, 0, 32), 1, 2, 0);
        x = deep();
        Due.are("up four", peer(x, 5, 0, 32), 6, 4, 0);
        Due.are("down four", peer(x, 6, 0, 16), 5, 4, 0);
        Due.are("down five", peer(x, 6, 0, 3), NONE, 5, 0);
        Due.are("up four, to none", peer(x, 4, 0, 40), NONE, 4, 0);
        x = new BusRanges();
        endpoint(x, NONE, 0, 0, 4);
        x.start(0);
        x.bridge(NONE, 1, 0, 16);
        x.start(1);
        x.endpoint(1, 0);
        Due.are("where its WINDOW begins", peer(x, 2, 0, 16), NONE, 0, 1);
        Due.are("where it ends", peer(x, 2, 0, 31), NONE, 0, 1);
        Due.are("behind it", peer(x, 2, 0, 32), NONE, 1, 0);
        Due.are("ahead of it", peer(x, 2, 0, 15), 0, 1, 0);
    }

    // ---- What would be ----

    private static void promise23() {
        BusRanges x = nested();
        ask("units of the SPACE", x.fill(NONE, 0, 0), 188);
        ask("of 4", x.fill(NONE, 0, 2), 47);
        ask("of 16", x.fill(NONE, 0, 4), 11);
        ask("of 64", x.fill(NONE, 0, 6), 2);
        ask("of 256", x.fill(NONE, 0, 8), 0);
        ask("of a WINDOW", x.fill(0, 0, 3), 3);
        ask("of 16 in a WINDOW", x.fill(0, 0, 4), 1);
        ask("of a WINDOW that begins later", x.fill(0, 1, 4), 1);
        ask("of units there", x.fill(2, 1, 0), 12);
        ask("e 9", x.fill(NONE, 0, 9), -2);
        ask("e -1", x.fill(NONE, 0, -1), -2);
        ask("KIND 2", x.fill(NONE, 2, 0), -2);
        ask("an ENDPOINT", x.fill(1, 0, 0), -2);
        ask("none", x.fill(5, 0, 0), -2);
        ask("-2", x.fill(-2, 0, 0), -2);
        x.stop(2);
        ask("an OFF BRIDGE", x.fill(2, 0, 0), -2);
        x.start(2);
        ask("no WINDOW", x.fill(2, 0, 0), 0);
        x = new BusRanges();
        x.space(0, 1024);
        ask("all of the greatest SPACE", x.fill(NONE, 0, 0), 1024);
    }

    private static void promise24() {
        BusRanges x = new BusRanges();
        x.space(0, 24);
        endpoint(x, NONE, 0, 0, 2);
        endpoint(x, NONE, 2, 0, 3);
        endpoint(x, NONE, 4, 0, 4);
        endpoint(x, NONE, 6, 1, 1);
        x.bridge(NONE, 7, 0, 0);
        ask("without the first there is room", x.blame(2), 0);
        ask("ON anyway", x.blame(1), NONE);
        ask("a BRIDGE", x.blame(4), -2);
        ask("none", x.blame(5), -2);
        ask("-1", x.blame(-1), -2);
        ask("20", x.blame(20), -2);
        x.shift(0, NONE, 5);
        ask("the first by the WALK", x.blame(2), 1);
        x.shift(0, NONE, 0);
        x.aperture(0, 0, 0);
        x.space(0, 21);
        ask("the one that does", x.blame(2), 1);
        x.space(0, 16);
        ask("no one of them does", x.blame(2), NONE);
        ask("nothing is done", x.about(2), 0);
        x = new BusRanges();
        x.space(0, 16);
        endpoint(x, NONE, 0, 0, 4);
        endpoint(x, NONE, 1, 0, 4);
        ask("a like one behind it", x.blame(0), 1);
        ask("which is ON", x.blame(1), NONE);
        x.space(0, 8);
        ask("but itself", x.blame(0), NONE);
        x = new BusRanges();
        x.space(0, 16);
        x.bridge(NONE, 0, 0, 16);
        endpoint(x, NONE, 1, 0, 4);
        ask("a BRIDGE is not to blame", x.blame(1), NONE);
    }

    /**
     * From 7: 137 * 7 + 71 = 1,030, so 30; 137 * 30 + 71 = 4,181, so 181: DRAW 81; 137 * 181 + 71 =
     * 24,868, so 868: DRAW 68.
     */
    private static void promise25() {
        BusRanges x = new BusRanges();
        x.space(0, 4);
        endpoint(x, NONE, 7, 0, 2);
        x.bridge(NONE, 2, 0, 0);
        endpoint(x, NONE, 0, 0, 3);
        endpoint(x, 1, 0);
        int acts = x.about(6);
        ask("below 0 none", x.chance(7, 0, 1), 0);
        ask("below 30 none", x.chance(7, 30, 1), 0);
        ask("below 31 the first", x.chance(7, 31, 1), 1);
        ask("which was too much", x.chance(7, 31, 2), 0);
        ask("ON then", x.chance(7, 31, 0), 3);
        ask("REFUSED else", x.chance(7, 30, 2), 1);
        ask("ON else", x.chance(7, 30, 0), 3);
        ask("below 68 the first", x.chance(7, 68, 1), 1);
        ask("below 69 the last, too", x.chance(7, 69, 1), 2);
        ask("below 81 those", x.chance(7, 81, 1), 2);
        ask("below 82 the one behind the BRIDGE, too", x.chance(7, 82, 1), 3);
        ask("a BRIDGE stays", x.chance(7, 100, 0), 1);
        ask("all", x.chance(0, 100, 1), 3);
        ask("seed 999", x.chance(999, 100, 0), 1);
        ask("seed 1000", x.chance(1000, 50, 0), NONE);
        ask("seed -1", x.chance(-1, 50, 0), NONE);
        ask("below 101", x.chance(7, 101, 0), NONE);
        ask("below -1", x.chance(7, -1, 0), NONE);
        ask("what 3", x.chance(7, 50, 3), NONE);
        ask("what -1", x.chance(7, 50, -1), NONE);
        ask("nothing is done", x.about(6), acts);
        ask("none is ON", x.about(2), 0);
        ask("none is REFUSED", x.about(5), 0);
        ask("none is unplugged", x.about(0), 4);
    }

    private static void promise26() {
        BusRanges x = nested();
        ask("on the HOST's BUS", x.wire(4, 0), 1);
        ask("another pin", x.wire(4, 3), 0);
        ask("behind one: 1 and 2", x.wire(1, 0), 3);
        ask("behind two: 0, 3 and 2", x.wire(3, 2), 3);
        ask("a BRIDGE: 3 and 2", x.wire(2, 0), 1);
        ask("pin 4", x.wire(4, 4), NONE);
        ask("pin -1", x.wire(4, -1), NONE);
        ask("none", x.wire(5, 0), NONE);
        ask("-1", x.wire(-1, 0), NONE);
        BusRanges deep = chain();
        deep.shift(0, NONE, 3);
        deep.endpoint(3, 7);
        ask("behind four: 7 and 3", deep.wire(5, 1), 3);
    }

    private static void promise27() {
        BusRanges x = nested();
        ask("itself", x.hops(3, 3), 0);
        ask("on one BUS", x.hops(1, 2), 0);
        ask("behind a BRIDGE and that", x.hops(3, 2), 0);
        ask("that and behind it", x.hops(2, 3), 0);
        ask("one between", x.hops(3, 1), 1);
        ask("the other way", x.hops(1, 3), 1);
        ask("two between", x.hops(3, 4), 2);
        ask("one between, to a BRIDGE", x.hops(0, 3), 1);
        x.bridge(NONE, 6, 0, 0);
        endpoint(x, 5, 0);
        ask("three between, some OFF", x.hops(6, 3), 3);
        ask("two BRIDGES on one BUS", x.hops(0, 5), 0);
        ask("none", x.hops(7, 0), NONE);
        ask("none", x.hops(0, 7), NONE);
        ask("-1", x.hops(-1, 0), NONE);
        ask("20", x.hops(0, 20), NONE);
        x = deep();
        x.endpoint(0, 7);
        ask("to the first BUS behind", x.hops(5, 7), 3);
        ask("to the HOST's", x.hops(6, 5), 4);
    }

    private static void promise28() {
        BusRanges x = nested();
        x.endpoint(2, 1);
        ask("on one BUS", x.common(3, 5), 2);
        ask("on two", x.common(3, 1), 0);
        ask("the other way", x.common(1, 3), 0);
        ask("itself is not behind itself", x.common(3, 2), 0);
        ask("nor here", x.common(2, 3), 0);
        ask("itself twice", x.common(3, 3), 2);
        ask("a BRIDGE twice", x.common(2, 2), 0);
        ask("the HOST's BUS", x.common(3, 4), NONE);
        ask("a BRIDGE on it", x.common(0, 3), NONE);
        ask("none", x.common(6, 0), -2);
        ask("none", x.common(0, 6), -2);
        ask("-1", x.common(-1, 0), -2);
        ask("20", x.common(0, 20), -2);
        x = deep();
        x.endpoint(0, 7);
        ask("the first BUS behind", x.common(5, 7), 0);
        ask("the last BUS", x.common(5, 4), 3);
        ask("the last BUS, the other way", x.common(4, 5), 3);
        ask("nothing but the HOST's", x.common(5, 6), NONE);
    }

    private static void promise29() {
        BusRanges x = nested();
        ask("of the inner", x.need(2, 0), 32);
        ask("of the outer", x.need(0, 0), 40);
        ask("of the HOST's", x.need(NONE, 0), 68);
        ask("KIND 1 of the outer", x.need(0, 1), 16);
        ask("KIND 1 of the HOST's", x.need(NONE, 1), 96);
        x.stop(0);
        x.stop(4);
        ask("were all ON", x.need(NONE, 0), 68);
        ask("nothing is done", x.about(2), 0);
        endpoint(x, NONE, 7, 0, 8, 0, 8, 0, 8);
        ask("above the SPACE", x.need(NONE, 0), 836);
        ask("KIND 2", x.need(0, 2), -2);
        ask("KIND -1", x.need(0, -1), -2);
        ask("an ENDPOINT", x.need(1, 0), -2);
        ask("none", x.need(6, 0), -2);
        ask("-2", x.need(-2, 0), -2);
        ask("of nothing", new BusRanges().need(NONE, 1), 0);
        x = new BusRanges();
        for (int i = 0; i < 8; i++) {
            x.bridge(NONE, i, 3, 0);
        }
        x.bridge(7, 0, 0, 0);
        x.bridge(8, 0, 0, 0);
        x.bridge(9, 0, 0, 3);
        ask("those without a number, too", x.need(NONE, 0), 16);
    }

    private static void promise30() {
        BusRanges x = nested();
        ask("of the inner", x.align(2, 0), 32);
        ask("a WINDOW's", x.align(0, 0), 32);
        ask("of the HOST's", x.align(NONE, 0), 32);
        ask("KIND 1 of the inner", x.align(2, 1), 4);
        ask("16 of a WINDOW", x.align(0, 1), 16);
        ask("KIND 1 of the HOST's", x.align(NONE, 1), 64);
        x.stop(0);
        ask("were all ON", x.align(0, 0), 32);
        x.bridge(NONE, 0, 0, 0);
        ask("no THING", x.align(5, 0), 0);
        ask("KIND 2", x.align(0, 2), -2);
        ask("KIND -1", x.align(0, -1), -2);
        ask("an ENDPOINT", x.align(1, 0), -2);
        ask("none", x.align(6, 0), -2);
        ask("-2", x.align(-2, 0), -2);
    }

    private static void promise31() {
        BusRanges x = nested();
        ask("of the SPACE", x.gap(NONE, 0), 188);
        ask("of a WINDOW", x.gap(0, 0), 24);
        ask("of a full one", x.gap(2, 0), 0);
        ask("KIND 1", x.gap(2, 1), 12);
        ask("KIND 1 of the SPACE", x.gap(NONE, 1), 160);
        x.stop(1);
        ask("of what is ON now", x.gap(0, 0), 32);
        ask("KIND 2", x.gap(0, 2), -2);
        ask("KIND -1", x.gap(0, -1), -2);
        ask("an ENDPOINT", x.gap(4, 0), -2);
        ask("none", x.gap(5, 0), -2);
        x.stop(2);
        ask("an OFF BRIDGE", x.gap(2, 0), -2);
        x.start(2);
        ask("no WINDOW", x.gap(2, 0), 0);
    }

    private static void promise32() {
        BusRanges x = nested();
        ask("of the SPACE", x.room(NONE, 0), 7);
        ask("of a WINDOW", x.room(0, 0), 4);
        ask("none", x.room(2, 0), NONE);
        ask("KIND 1", x.room(2, 1), 3);
        ask("KIND 1 of the SPACE", x.room(NONE, 1), 7);
        ask("KIND 2", x.room(0, 2), -2);
        ask("an ENDPOINT", x.room(1, 0), -2);
        ask("none such", x.room(5, 0), -2);
        x.stop(0);
        ask("an OFF BRIDGE", x.room(0, 0), -2);
        x = new BusRanges();
        ask("the greatest", x.room(NONE, 0), 8);
        x.space(0, 1);
        ask("the least", x.room(NONE, 0), 0);
        x.space(0, 0);
        ask("no SPACE", x.room(NONE, 0), NONE);
    }

    private static void promise33() {
        BusRanges x = new BusRanges();
        ask("of the HOST's", x.spare(NONE), 31);
        x.bridge(NONE, 0, 3, 0);
        x.bridge(0, 0, 1, 0);
        ask("an OFF BRIDGE", x.spare(0), -2);
        x.powerUp();
        ask("behind a BRIDGE", x.spare(0), 3);
        ask("of a RANGE of two", x.spare(1), 1);
        ask("of the HOST's then", x.spare(NONE), 25);
        x.stop(1);
        ask("free again", x.spare(0), 5);
        endpoint(x, 0, 1);
        ask("an ENDPOINT", x.spare(2), -2);
        ask("none", x.spare(3), -2);
        ask("-2", x.spare(-2), -2);
        ask("20", x.spare(20), -2);
    }

    private static void promise34() {
        BusRanges x = nested();
        endpoint(x, 2, 7, 0, 4);
        ask("the HOST's BUS first", x.place(5), NONE);
        for (int slot = 0; slot < 8; slot++) {
            x.endpoint(NONE, slot);
        }
        ask("it has no SLOT free: the next", x.place(5), 0);
        x.aperture(5, 1, 4);
        ask("room of both KINDS", x.place(5), 0);
        x.aperture(5, 1, 4);
        ask("none has", x.place(5), -2);
        ask("one that is ON", x.place(1), -2);
        ask("a BRIDGE", x.place(2), -2);
        ask("none", x.place(19), -2);
        ask("-1", x.place(-1), -2);
        endpoint(x, 2, 6, 1, 3);
        x.stop(1);
        ask("an ENDPOINT whose own SLOT it is", x.place(6), NONE);
        x = nested();
        for (int slot = 0; slot < 8; slot++) {
            x.endpoint(NONE, slot);
        }
        endpoint(x, 2, 6, 1, 3);
        ask("the first by the WALK, though another is its own", x.place(11), 0);
        x.stop(4);
        ask("its own SLOT", x.place(4), NONE);
        ask("nothing is done", x.device(4, 3), 0);
        x.stop(0);
        ask("BRIDGES that are OFF are none", x.place(11), -2);
        promise34Depth();
        x = new BusRanges();
        x.space(0, 16);
        x.bridge(NONE, 0, 0, 16);
        ask("a BRIDGE that is OFF", x.place(0), -2);
        x.start(0);
        endpoint(x, NONE, 6, 0, 3);
        ask("the first by the WALK", x.place(1), 0);
        for (int slot = 1; slot < 8; slot++) {
            x.endpoint(0, slot);
        }
        ask("SLOT 0 alone is free", x.place(1), 0);
        x.endpoint(0, 0);
        ask("none is free", x.place(1), -2);
    }

    /** BRIDGE 4 has a WINDOW, but an ENDPOINT behind it would be behind five. */
    private static void promise34Depth() {
        BusRanges x = new BusRanges();
        int at = NONE;
        for (int i = 0; i < 5; i++) {
            at = x.bridge(at, 0, 0, i == 4 ? 16 : 0);
        }
        for (int slot = 1; slot < 8; slot++) {
            x.endpoint(NONE, slot);
        }
        endpoint(x, 3, 1, 0, 4);
        x.powerUp();
        x.stop(12);
        ask("behind four there is room", x.room(3, 0), 4);
        ask("its own SLOT there", x.place(12), 3);
        x.unplug(12);
        endpoint(x, 2, 1, 0, 4);
        ask("another BUS on the way has none", x.room(2, 0), NONE);
        ask("a SLOT behind four", x.place(12), 3);
        endpoint(x, 3, 2, 0, 4);
        x.start(13);
        ask("behind five there is room", x.room(4, 0), 4);
        ask("but it can't be plugged in there", x.place(12), -2);
    }

    private static void promise35() {
        BusRanges x = new BusRanges();
        ask("none is there", x.greediest(0), NONE);
        x.bridge(NONE, 0, 0, 128);
        ask("BRIDGES are none", x.greediest(0), NONE);
        endpoint(x, NONE, 7, 0, 3, 0, 3);
        endpoint(x, NONE, 1, 0, 3, 1, 8);
        ask("all units of the KIND", x.greediest(0), 1);
        ask("KIND 1", x.greediest(1), 2);
        endpoint(x, 0, 0, 0, 4);
        ask("of like ones the first by the WALK", x.greediest(0), 3);
        x.start(1);
        ask("ON or OFF", x.greediest(0), 3);
        x.aperture(2, 0, 4);
        ask("more", x.greediest(0), 2);
        ask("KIND 2", x.greediest(2), NONE);
        ask("KIND -1", x.greediest(-1), NONE);
    }

    private static void promise36() {
        BusRanges x = nested();
        ask("all as it is", x.would(0), 5);
        ask("none elsewhere", x.would(1), 0);
        ask("none OFF", x.would(2), 0);
        ask("none REFUSED", x.would(3), 0);
        x.stop(3);
        endpoint(x, NONE, 0, 0, 7);
        x.start(5);
        int acts = x.about(6);
        Due.are("one laid at 128 by START, and one stopped", bases(x, 5), 128);
        ask("all would be ON", x.would(0), 6);
        ask("all of KIND 0 that are ON elsewhere", x.would(1), 3);
        endpoint(x, NONE, 1, 0, 7);
        ask("too much", x.would(3), 1);
        ask("one that is ON would be OFF", x.would(2), 1);
        ask("all others", x.would(0), 6);
        ask("who would be OFF does not count", x.would(1), 2);
        ask("what 4", x.would(4), NONE);
        ask("what -1", x.would(-1), NONE);
        ask("nothing is done", x.about(6), acts + 2);
        ask("nothing moves", x.bar(5, 0, 2), 128);
        ask("none is REFUSED", x.about(5), 0);
        x = new BusRanges();
        x.space(0, 8);
        endpoint(x, NONE, 1, 0, 2);
        endpoint(x, NONE, 0, 0, 2);
        x.start(0);
        x.start(1);
        ask("both change places", x.would(1), 2);
        x = new BusRanges();
        x.space(0, 4);
        endpoint(x, NONE, 0, 0, 2);
        endpoint(x, NONE, 1, 0, 2);
        x.start(0);
        ask("one is ON, the other would be", x.would(0), 1);
        ask("one would be OFF", x.would(2), 1);
        ask("none elsewhere then", x.would(1), 0);
    }

    private static void promise37() {
        BusRanges x = nested();
        ask("of ON ENDPOINTS", x.units(0, 0), 44);
        ask("on the HOST's BUS", x.units(0, 1), 68);
        ask("of WINDOWS", x.units(0, 2), 96);
        ask("of all ENDPOINTS", x.units(0, 3), 44);
        ask("KIND 1 of ON ENDPOINTS", x.units(1, 0), 68);
        ask("KIND 1 on the HOST's BUS", x.units(1, 1), 96);
        ask("KIND 1 of WINDOWS", x.units(1, 2), 48);
        x.stop(3);
        ask("of ON ENDPOINTS then", x.units(0, 0), 12);
        ask("of all ENDPOINTS then", x.units(0, 3), 44);
        ask("of WINDOWS then", x.units(0, 2), 96);
        x.stop(2);
        ask("without a WINDOW", x.units(0, 2), 64);
        x.stop(4);
        ask("on the HOST's BUS then", x.units(0, 1), 64);
        ask("what 4", x.units(0, 4), NONE);
        ask("what -1", x.units(0, -1), NONE);
        ask("KIND 2", x.units(2, 0), NONE);
        ask("KIND -1", x.units(-1, 0), NONE);
        x = new BusRanges();
        endpoint(x, NONE, 0, 0, 3);
        ask("of DEVICE 0, OFF", x.units(0, 3), 8);
        x.start(0);
        ask("of DEVICE 0, ON", x.units(0, 0), 8);
        ask("its APERTURES, too", x.about(3), 1);
    }

    private static void promise38() {
        BusRanges x = nested();
        ask("KIND 0", x.law(0), 0);
        ask("KIND 1", x.law(1), 0);
        ask("KIND 2", x.law(2), NONE);
        ask("KIND -1", x.law(-1), NONE);
        x.stop(3);
        x.start(3);
        ask("after START", x.law(0), 0);
        ask("of none", new BusRanges().law(0), 0);
    }

    // ---- ACTS taken back and done again, images ----

    private static void promise39() {
        BusRanges x = nested();
        int acts = x.about(6);
        ask("POWER-UP", x.undo(), true);
        ask("all are OFF", x.about(2), 0);
        ask("one less", x.about(6), acts - 1);
        ask("an APERTURE", x.undo(), true);
        ask("it is gone", x.device(4, 4), 1);
        for (int i = 2; i < acts; i++) {
            ask("one more", x.undo(), true);
        }
        ask("nothing is left", x.about(0), 0);
        ask("there is none", x.undo(), false);
        x = new BusRanges();
        for (int i = 0; i < 25; i++) {
            x.space(0, i);
        }
        for (int i = 0; i < 20; i++) {
            ask("one of 20", x.undo(), true);
        }
        ask("20 are kept", x.undo(), false);
        ask("the oldest go", x.about(8), 4);
        x = nested();
        x.unplug(0);
        x.undo();
        Due.are("who was unplugged", walk(x), 0, 1, 2, 3, 4);
        Due.are("with its WINDOWS", window(x, 0), 1, 2, 0, 64, 64, 32);
        x.stop(4);
        x.shift(4, NONE, 0);
        x.undo();
        ask("where it was", x.device(4, 2), 5);
        x.undo();
        Due.are("ON again", bases(x, 4), 64, 0);
    }

    private static void promise40() {
        BusRanges x = nested();
        ask("there is none", x.redo(), false);
        x.undo();
        x.undo();
        ask("the APERTURE", x.redo(), true);
        ask("it is there", x.device(4, 4), 2);
        ask("POWER-UP", x.redo(), true);
        Due.are("as it was", bases(x, 4), 64, 0);
        ask("no more", x.redo(), false);
        x.undo();
        x.endpoint(NONE, 5);
        ask("a refused one is no ACT", x.redo(), true);
        x.undo();
        x.endpoint(NONE, 6);
        ask("till another ACT", x.redo(), false);
        x = new BusRanges();
        for (int i = 0; i < 25; i++) {
            x.space(1, i);
        }
        for (int i = 0; i < 20; i++) {
            x.undo();
        }
        for (int i = 0; i < 20; i++) {
            ask("all 20", x.redo(), true);
            ask("one by one", x.about(9), 5 + i);
            ask("which can be taken back", x.about(6), 1 + i);
            ask("those that are left", x.about(7), 19 - i);
        }
        ask("and no more", x.redo(), false);
    }

    private static void promise41() {
        BusRanges x = nested();
        int acts = x.about(6);
        ask("how many", x.image(0), 5);
        ask("no ACT", x.about(6), acts);
        x.unplug(0);
        ask("another", x.image(1), 1);
        ask("kept as it was", x.back(0), 5);
        ask("kept as it was", x.back(1), 1);
        x.undo();
        x.endpoint(NONE, 0);
        ask("over the one before", x.image(1), 2);
        ask("that one is kept", x.back(1), 2);
        ask("BOX 2", x.image(2), NONE);
        ask("BOX -1", x.image(-1), NONE);
        x.undo();
        x = nested();
        x.undo();
        x.image(0);
        ask("what can be done again stays", x.redo(), true);
    }

    private static void promise42() {
        BusRanges x = nested();
        ask("nothing was kept", x.back(0), NONE);
        x.image(1);
        ask("nor in this one", x.back(0), NONE);
        x.stop(0);
        x.space(0, 1);
        x.unplug(4);
        x.undo();
        ask("BOX 2", x.back(2), NONE);
        ask("BOX -1", x.back(-1), NONE);
        ask("nothing is done", x.about(7), 1);
        ask("as it was", x.back(1), 5);
        Due.are("all of it", about(x), 5, 2, 5, 5, 2, 0, 0, 0, 256, 256);
        Due.are("WINDOWS", window(x, 0), 1, 2, 0, 64, 64, 32);
        ask("no ACTS are kept", x.undo(), false);
        ask("nor to be done again", x.redo(), false);
        x.unplug(0);
        ask("an ACT after it", x.undo(), true);
        x.unplug(4);
        ask("again", x.back(1), 5);
        Due.are("the BOX stays", bases(x, 4), 64, 0);
        x = new BusRanges();
        x.image(0);
        x.endpoint(NONE, 0);
        ask("with no DEVICES", x.back(0), 0);
        x.space(0, 0);
        endpoint(x, NONE, 0, 0, 0);
        x.powerUp();
        x.image(0);
        x.unplug(0);
        x.powerUp();
        x.back(0);
        ask("who was REFUSED", x.refused(0), 0);
    }

    private static void promise43() {
        BusRanges x = nested();
        x.stop(1);
        x.undo();
        x.stop(3);
        x.endpoint(NONE, 0);
        x.undo();
        Due.are("all", about(x), 5, 2, 4, 3, 2, 0, 12, 1, 256, 256);
        ask("what 10", x.about(10), NONE);
        ask("what -1", x.about(-1), NONE);
        ask("what least", x.about(LEAST), NONE);
        x.stop(2);
        ask("the greatest of ON ones", x.about(4), 1);
        x.stop(0);
        x.stop(4);
        ask("there is none", x.about(4), 0);
        x.space(0, 0);
        x.space(1, 20);
        x.powerUp();
        Due.are("REFUSED: of KIND 0 3, 1, 4, then the BRIDGE", refused(x), 3, 1, 4, 0);
        Due.are("none is ON", about(x), 5, 2, 0, 0, 0, 4, 18, 0, 0, 20);
    }

    /** An object is used for at most 512 calls: the last ones are answered as the first ones. */
    private static void lastCall() {
        BusRanges x = new BusRanges();
        for (int i = 1; i <= 254; i++) {
            ask("call " + (2 * i - 1), x.space(i % 2, i), true);
            ask("call " + 2 * i, x.about(8 + i % 2), i);
        }
        ask("call 509", x.endpoint(NONE, 0), 0);
        ask("call 510", x.undo(), true);
        ask("call 511", x.undo(), true);
        ask("call 512", x.about(8), 252);
    }
}
