/** Trees that several tests build, and what they read off them. */
abstract class Trees {
    static final int NONE = -1;
    static final int LEAST = Integer.MIN_VALUE;
    static final int MOST = Integer.MAX_VALUE;

    static void ask(String what, long got, long want) {
        Due.is(what, got, want);
    }

    static void ask(String what, boolean got, boolean want) {
        Due.is(what, got, want);
    }

    /** An ENDPOINT with APERTURES, told as kind and e by turns. */
    static int endpoint(BusRanges x, int at, int slot, int... apertures) {
        int device = x.endpoint(at, slot);
        for (int i = 0; i < apertures.length; i += 2) {
            x.aperture(device, apertures[i], apertures[i + 1]);
        }
        return device;
    }

    /** A new object with so much SPACE of KIND 0. */
    static BusRanges withSpace(int size) {
        BusRanges x = new BusRanges();
        x.space(0, size);
        return x;
    }

    static int[] about(BusRanges x) {
        int[] seen = new int[10];
        for (int what = 0; what < seen.length; what++) {
            seen[what] = x.about(what);
        }
        return seen;
    }

    static int[] window(BusRanges x, int bridge) {
        int[] seen = new int[6];
        for (int what = 0; what < seen.length; what++) {
            seen[what] = x.window(bridge, what);
        }
        return seen;
    }

    /** First and last number. */
    static int[] range(BusRanges x, int bridge) {
        return new int[] {x.window(bridge, 0), x.window(bridge, 1)};
    }

    static int[] walk(BusRanges x) {
        int[] seen = new int[x.about(0)];
        for (int i = 0; i < seen.length; i++) {
            seen[i] = x.walk(i);
        }
        return seen;
    }

    static int[] bases(BusRanges x, int device) {
        int[] seen = new int[x.device(device, 4)];
        for (int a = 0; a < seen.length; a++) {
            seen[a] = x.bar(device, a, 2);
        }
        return seen;
    }

    static int[] refused(BusRanges x) {
        int[] seen = new int[x.about(5)];
        for (int i = 0; i < seen.length; i++) {
            seen[i] = x.refused(i);
        }
        return seen;
    }

    /** All that is told of what there is, and of what can be taken back and done again. */
    static String told(BusRanges x) {
        return x.about(6) + " " + x.about(7) + " " + state(x);
    }

    /** All that is told of what there is, DEVICES in the order of the WALK. */
    static String state(BusRanges x) {
        StringBuilder seen = new StringBuilder();
        for (int what : new int[] {0, 1, 2, 3, 4, 5, 8, 9}) {
            seen.append(x.about(what)).append(' ');
        }
        for (int device : walk(x)) {
            seen.append('/').append(device);
            for (int what = 0; what < 7; what++) {
                seen.append(' ').append(x.device(device, what));
            }
            for (int a = 0; a < x.device(device, 4); a++) {
                for (int what = 0; what < 3; what++) {
                    seen.append(' ').append(x.bar(device, a, what));
                }
            }
            for (int what = 0; what < 6; what++) {
                seen.append(' ').append(x.window(device, what));
            }
        }
        for (int i : refused(x)) {
            seen.append(" refused ").append(i);
        }
        return seen.toString();
    }

    /** Nothing was done since all was told so; what can be done again shows that, too. */
    static void unchanged(BusRanges x, String before) {
        String now = told(x);
        Due.is("nothing is done: " + before + " became " + now, now.equals(before), true);
    }

    /** Five BRIDGES 0 .. 4, each behind the one before it, on SLOT 0. */
    static BusRanges chain() {
        BusRanges x = new BusRanges();
        int at = NONE;
        for (int i = 0; i < 5; i++) {
            at = x.bridge(at, 0, 0, 0);
        }
        return x;
    }

    /**
     * After POWER-UP: BRIDGE 0 (SLOT 2, 16 UNITS), behind it ENDPOINT 1 (SLOT 1: KIND 0 of 8) and
     * BRIDGE 2 (SLOT 3), behind that ENDPOINT 3 (SLOT 0: KIND 0 of 32, KIND 1 of 4);
     * on the HOST's BUS ENDPOINT 4 (SLOT 5: KIND 0 of 4, KIND 1 of 64).
     * KIND 0: WINDOW of 2: 32 at 0; of 0: 32 + 8 + 16 = 56, so 64, at 0; APERTURE of 4 at 64.
     * KIND 1: WINDOW of 2: 16; of 0: 32; APERTURE of 4 at 0, WINDOW of 0 at 64.
     */
    static BusRanges nested() {
        BusRanges x = new BusRanges();
        x.bridge(NONE, 2, 0, 16);
        endpoint(x, 0, 1, 0, 3);
        x.bridge(0, 3, 0, 0);
        endpoint(x, 2, 0, 0, 5, 1, 2);
        endpoint(x, NONE, 5, 0, 2, 1, 6);
        x.powerUp();
        return x;
    }

    /** nested() with one more ACT, which is taken back, so that a lost REDO would show. */
    static BusRanges nestedWithRedo() {
        BusRanges x = nested();
        x.stop(4);
        x.undo();
        return x;
    }

    /**
     * After POWER-UP: a chain of which BRIDGE 4 leaves 16 UNITS, ENDPOINT 5 beside that one (4 units
     * of KIND 0), ENDPOINT 6 on the HOST's BUS (8 units). WINDOWS of 0 .. 3: 32 at 0; of 4: 16 at 0.
     */
    static BusRanges deep() {
        BusRanges x = new BusRanges();
        int at = NONE;
        for (int i = 0; i < 5; i++) {
            at = x.bridge(at, 0, 0, i == 4 ? 16 : 0);
        }
        endpoint(x, 3, 1, 0, 2);
        endpoint(x, NONE, 1, 0, 3);
        x.powerUp();
        return x;
    }

    /** 20 DEVICES: BRIDGES 0 .. 3 in SLOTS 0 .. 3, ENDPOINTS 4 .. 19 behind 0 and 1. */
    static BusRanges full() {
        BusRanges x = new BusRanges();
        for (int i = 0; i < 20; i++) {
            if (i < 4) {
                x.bridge(NONE, i, 0, 0);
            } else {
                x.endpoint((i - 4) / 8, (i - 4) % 8);
            }
        }
        return x;
    }

    /**
     * BRIDGES 0 .. 7 in SLOTS 0 .. 7, each leaving 3 NUMBERS, behind the last one BRIDGE 8, behind that
     * 9 and 10 (SLOTS 0, 1). After POWER-UP: 7 from 29 on, 8 has 30, 9 has 31, 10 none.
     */
    static BusRanges crowdOfNumbers() {
        BusRanges x = new BusRanges();
        for (int i = 0; i < 8; i++) {
            x.bridge(NONE, i, 3, 0);
        }
        x.bridge(7, 0, 3, 0);
        x.bridge(8, 0, 3, 0);
        x.bridge(8, 1, 0, 0);
        x.powerUp();
        return x;
    }

    /**
     * A SPACE of 24, in SLOTS 0 .. 6 ENDPOINTS that have 0 .. 2, 3, 4 .. 6, 7, 8 .. 14, 15 and 16 .. 18, of
     * which those of one unit are stopped. For ENDPOINT 7, of 8 units, the three APERTURES of 6 must move,
     * which is the last row of all.
     */
    static BusRanges lastRow() {
        BusRanges x = withSpace(24);
        int[][] apertures = {{0, 1, 0, 0}, {0, 0}, {0, 1, 0, 0}, {0, 0}, {0, 2, 0, 1, 0, 0}, {0, 0},
            {0, 0, 0, 0, 0, 0}};
        for (int slot = 0; slot < 7; slot++) {
            x.start(endpoint(x, NONE, slot, apertures[slot]));
        }
        for (int device = 1; device < 7; device += 2) {
            x.stop(device);
        }
        endpoint(x, NONE, 7, 0, 3);
        return x;
    }

    /** A SPACE of 2 units for each ENDPOINT 0 .. n - 1 in SLOTS 0 .. n - 1, all started: 2 units each. */
    static BusRanges rowOfTwos(int n) {
        BusRanges x = withSpace(2 * n);
        for (int i = 0; i < n; i++) {
            endpoint(x, NONE, i, 0, 1);
            x.start(i);
        }
        return x;
    }
}
