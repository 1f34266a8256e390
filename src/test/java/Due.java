import java.util.function.IntToLongFunction;

/** Counts answers that are not the ones that are due, prints each, and ends the test. */
final class Due {
    private static int asked = 0;
    private static int wrong = 0;
    private static String caseName = "";

    private Due() {
    }

    /** What is looked at from here on belongs to this case. */
    static void begin(String name) {
        caseName = name + ": ";
    }

    static void due(String call, long got, long want) {
        asked++;
        if (got != want) {
            wrong++;
            System.out.println(caseName + call + " answered " + got + ", due is " + want);
        }
    }

    static void holds(String what, boolean held) {
        asked++;
        if (!held) {
            wrong++;
            System.out.println(caseName + "does not hold: " + what);
        }
    }

    static void fraction(String call, long gotUpper, long gotLower, long upper, long lower) {
        due(call + " upper", gotUpper, upper);
        due(call + " lower", gotLower, lower);
    }

    /** The same answer is due for each of the numbers. */
    static void each(String name, IntToLongFunction call, long want, int... numbers) {
        for (int number : numbers) {
            due(name + " " + number, call.applyAsLong(number), want);
        }
    }

    static long bits(int... places) {
        long bits = 0;
        for (int p : places) {
            bits |= 1L << p;
        }
        return bits;
    }

    static int askedSoFar() {
        return asked;
    }

    static int wrongSoFar() {
        return wrong;
    }

    static void end() {
        System.out.println(asked + " answers looked at, " + wrong + " not as due");
        if (wrong != 0 || asked == 0) {
            System.exit(1);
        }
    }
}
