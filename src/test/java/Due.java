/** Compares answers with the ones that are due, prints each that differs, and ends the test. */
final class Due {
    private static int wrong = 0;
    private static int seen = 0;

    private Due() {
    }

    static void is(String call, long got, long want) {
        seen++;
        if (got != want) {
            wrong++;
            System.out.println(call + " answered " + got + ", due is " + want);
        }
    }

    static void holds(String what, boolean holds) {
        seen++;
        if (!holds) {
            wrong++;
            System.out.println("does not hold: " + what);
        }
    }

    static void same(String what, String got, String want) {
        seen++;
        if (!got.equals(want)) {
            wrong++;
            System.out.println(what + " is\n  " + got + "\ndue is\n  " + want);
        }
    }

    static boolean allWell() {
        return wrong == 0;
    }

    static void end() {
        System.out.println(wrong == 0 ? "all " + seen + " answers are as due" : wrong + " of " + seen + " answers are not as due");
        if (wrong != 0 || seen == 0) {
            System.exit(1);
        }
    }
}
