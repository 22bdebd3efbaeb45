import java.util.Arrays;

/** What the tests share: telling answers that are not as due, and how a test ends. */
final class Due {
    private static int wrong = 0;
    private static int calls = 0;
    private static String place = "";

    private Due() {
    }

    /** What is told ahead of all that is wrong from now on. */
    static void within(String told) {
        place = told;
    }

    static int calls() {
        return calls;
    }

    static void is(String what, long got, long want) {
        calls++;
        if (got != want) {
            wrong++;
            System.out.println(place + what + ": answered " + got + ", due is " + want);
        }
    }

    static void is(String what, boolean got, boolean want) {
        is(what, got ? 1 : 0, want ? 1 : 0);
    }

    /** Several answers of one call, in order. */
    static void are(String what, int[] got, int... want) {
        calls++;
        if (!Arrays.equals(got, want)) {
            wrong++;
            System.out.println(place + what + ": answered " + Arrays.toString(got)
                    + ", due is " + Arrays.toString(want));
        }
    }

    static void end() {
        System.out.println(wrong == 0 ? calls + " answers are as due" : wrong + " answers are not as due");
        if (wrong != 0 || calls == 0) {
            System.exit(1);
        }
    }
}
