/** Counts the calls whose answers are as due, and prints the others. */
final class Due {
    private static final int MOST_PRINTED = 40;
    private static int right = 0;
    private static int wrong = 0;

    private Due() {
    }

    static void is(String call, long got, long want) {
        tell(call, got == want, Long.toString(got), Long.toString(want));
    }

    static void is(String call, String got, String want) {
        tell(call, got.equals(want), got, want);
    }

    private static void tell(String call, boolean asDue, String got, String want) {
        if (asDue) {
            right++;
            return;
        }
        wrong++;
        if (wrong <= MOST_PRINTED) {
            System.out.println(call + " answered " + got + ", due is " + want);
        }
    }

    /** Tells the outcome, and ends with 1 if an answer was not as due. */
    static void end(String test) {
        System.out.println(test + ": " + right + " answers as due, " + wrong + " not");
        if (wrong != 0) {
            System.exit(1);
        }
    }
}
