import java.util.function.LongSupplier;

/** Compares answers with those that are due, and ends a test. */
final class Due {
    private static final int MOST_TOLD = 40;
    private static int wrong;
    private static boolean silent;

    private Due() {
    }

    static void is(String call, long got, long want) {
        if (got != want) {
            tell(call + " answered " + got + ", due is " + want);
        }
    }

    static void isNot(String call, long got, long unwanted) {
        if (got == unwanted) {
            tell(call + " answered " + got + ", which is not due");
        }
    }

    /** For answers that must come without an exception, whatever they are. */
    static void is(String call, LongSupplier got, long want) {
        try {
            is(call, got.getAsLong(), want);
        } catch (RuntimeException thrown) {
            tell(call + " threw " + thrown + ", due is " + want);
        }
    }

    static void holds(String what, boolean is) {
        if (!is) {
            tell(what);
        }
    }

    static void tell(String what) {
        wrong++;
        if (wrong <= MOST_TOLD && !silent) {
            System.out.println(what);
        }
    }

    static boolean isWrong() {
        return wrong != 0;
    }

    static int wrongOnes() {
        return wrong;
    }

    /** For a program that is broken on purpose. */
    static void keepSilent() {
        silent = true;
    }

    static void end() {
        System.out.println(wrong == 0 ? "all answers are as due" : wrong + " answers are not as due");
        if (wrong != 0) {
            System.exit(1);
        }
    }
}
