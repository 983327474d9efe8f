/** Compares answers with the ones that are due, and ends a test with exit code 1 if one was wrong. */
final class Checks {
    private static final int MOST_SHOWN = 5;

    private static String underTest = "";
    private static int sentences = 0;
    private static int done = 0;
    private static int wrong = 0;
    private static int shown = 0;

    private Checks() {
    }

    static void promise(int number, String words, Runnable test) {
        sentence("Promise " + number, words, test);
    }

    /** Runs the test of one sentence of the document, so that a wrong answer is told with the words that it breaks. */
    static void sentence(String section, String words, Runnable test) {
        underTest = section + " \"" + words + "\": ";
        sentences++;
        shown = 0;
        int doneBefore = done;
        try {
            test.run();
        } catch (RuntimeException e) {
            tellWrong(e.toString());
        }
        if (done == doneBefore) tellWrong("no answer was looked at");
        underTest = "";
    }

    static void due(String call, long got, long want) {
        done++;
        if (got != want) tellWrong(call + " answered " + got + ", due is " + want);
    }

    static void holds(String claim, boolean isSo) {
        due(claim, isSo ? 1 : 0, 1);
    }

    static boolean allRight() {
        return wrong == 0;
    }

    static void end() {
        String looked = done + " answers" + (sentences == 0 ? "" : " on " + sentences + " sentences");
        System.out.println(wrong == 0 ? looked + " are as due" : wrong + " faults in " + looked);
        if (wrong != 0) System.exit(1);
    }

    private static void tellWrong(String what) {
        wrong++;
        shown++;
        if (shown <= MOST_SHOWN) System.out.println(underTest + what);
    }
}
