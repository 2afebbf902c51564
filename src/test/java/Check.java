/** Counts and prints the answers that are not as due. */
final class Check {
    private static int checked = 0;
    private static int wrong = 0;
    private static int sentences = 0;
    private static String sentence = "";
    private static int checkedBefore = -1;

    private Check() {
    }

    static void due(String call, long got, long want) {
        checked++;
        if (got != want) {
            report(call, Long.toString(got), Long.toString(want));
        }
    }

    static void due(String call, boolean got, boolean want) {
        checked++;
        if (got != want) {
            report(call, Boolean.toString(got), Boolean.toString(want));
        }
    }

    static void due(String call, String got, String want) {
        checked++;
        if (!got.equals(want)) {
            report(call, got, want);
        }
    }

    /** From here on the answers belong to this sentence of the document, word for word, under this heading. */
    static void sentence(String heading, String words) {
        dueSentenceTested();
        sentences++;
        sentence = heading + ": " + words;
        checkedBefore = checked;
    }

    private static void dueSentenceTested() {
        if (checked == checkedBefore) {
            wrong++;
            System.out.println("no answer was looked at for '" + sentence + "'");
        }
    }

    private static void report(String call, String got, String want) {
        wrong++;
        String because = sentence.isEmpty() ? "" : ", for '" + sentence + "'";
        System.out.println(call + " answered " + got + ", due is " + want + because);
    }

    /** The number of wrong answers so far. */
    static int wrong() {
        return wrong;
    }

    /** Ends the test: with exit code 1 if an answer was wrong or none was looked at. */
    static void end() {
        dueSentenceTested();
        String of = sentences == 0 ? "" : " for " + sentences + " sentences";
        System.out.println(checked + " answers checked" + of + ", " + wrong + " not as due");
        if (wrong != 0 || checked == 0) {
            System.exit(1);
        }
    }
}
