/** Counts answers that are not the ones that are due, prints each, and ends the test. */
final class Due {
    private static int asked = 0;
    private static int wrong = 0;

    private Due() {
    }

    static void due(String call, long got, long want) {
        asked++;
        if (got != want) {
            wrong++;
            System.out.println(call + " answered " + got + ", due is " + want);
        }
    }

    static void holds(String what, boolean held) {
        asked++;
        if (!held) {
            wrong++;
            System.out.println("does not hold: " + what);
        }
    }

    static void fraction(String call, long gotUpper, long gotLower, long upper, long lower) {
        due(call + " upper", gotUpper, upper);
        due(call + " lower", gotLower, lower);
    }

    static long bits(int... places) {
        long bits = 0;
        for (int p : places) {
            bits |= 1L << p;
        }
        return bits;
    }

    static int wrongSoFar() {
        return wrong;
    }

    static void end() {
        System.out.println(asked + " answers looked at, " + wrong + " not as due");
        if (wrong != 0 || asked == 0) {
            System.exit(1);
        }
    }
}
