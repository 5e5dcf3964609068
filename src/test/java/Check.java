/** Counts the answers that are not the ones that are due. */
final class Check {
    /** A call that gives a number; a boolean counts 1 or 0, a call without an answer 0. */
    interface Call {
        long answer();
    }

    private static int checked = 0;
    private static int wrong = 0;

    private Check() {
    }

    static void due(String call, long got, long want) {
        checked++;
        if (got != want) {
            wrong++;
            System.out.println(call + " answered " + got + ", due is " + want);
        }
    }

    static void due(String call, String got, String want) {
        checked++;
        if (!got.equals(want)) {
            wrong++;
            System.out.println(call + " answered " + got + ", due is " + want);
        }
    }

    static void due(String call, boolean got, boolean want) {
        due(call, got ? 1 : 0, want ? 1 : 0);
    }

    /** What a call answers, or throws.Name if it throws. */
    static String outcome(Call call) {
        try {
            return Long.toString(call.answer());
        } catch (RuntimeException e) {
            return "throws." + e.getClass().getSimpleName();
        }
    }

    static void throwsBounds(String what, Call call) {
        due(what, outcome(call), "throws.IndexOutOfBoundsException");
    }

    static void throwsState(String what, Call call) {
        due(what, outcome(call), "throws.IllegalStateException");
    }

    static void throwsArgument(String what, Call call) {
        due(what, outcome(call), "throws.IllegalArgumentException");
    }

    /** Ends the test with exit code 1 if an answer was wrong, or if nothing was looked at. */
    static void end() {
        System.out.println(checked + " answers looked at, " + wrong + " not as due");
        if (wrong != 0 || checked == 0) {
            System.exit(1);
        }
    }
}
