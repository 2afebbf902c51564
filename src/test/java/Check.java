/** Counts and prints the answers that are not as due. */
final class Check {
    private static int checked = 0;
    private static int wrong = 0;

    private Check() {
    }

    static void due(String call, long got, long want) {
        checked++;
        if (got != want) {
            report(call, Long.toString(got), Long.toString(want));
        }
    }

    static void due(String call, boolean got, boolean want) {
        checked++;
        if (got != want) {
            report(call, Boolean.toString(got), Boolean.toString(want));
        }
    }

    static void due(String call, String got, String want) {
        checked++;
        if (!got.equals(want)) {
            report(call, got, want);
        }
    }

    private static void report(String call, String got, String want) {
        wrong++;
        System.out.println(call + " answered " + got + ", due is " + want);
    }

    /** The number of wrong answers so far. */
    static int wrong() {
        return wrong;
    }

    /** Ends the test: with exit code 1 if an answer was wrong or none was looked at. */
    static void end() {
        System.out.println(checked + " answers checked, " + wrong + " not as due");
        if (wrong != 0 || checked == 0) {
            System.exit(1);
        }
    }
}
