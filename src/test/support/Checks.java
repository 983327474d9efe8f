/** Compares answers with the ones that are due, and ends a test with exit code 1 if one was wrong. */
final class Checks {
    private static final int MOST_SHOWN = 50;

    private static int done = 0;
    private static int wrong = 0;

    private Checks() {
    }

    static void due(String call, long got, long want) {
        done++;
        if (got == want) return;
        wrong++;
        if (wrong <= MOST_SHOWN) {
            System.out.println(call + " answered " + got + ", due is " + want);
        }
    }

    static void holds(String claim, boolean isSo) {
        due(claim, isSo ? 1 : 0, 1);
    }

    static boolean allRight() {
        return wrong == 0;
    }

    static void end() {
        System.out.println(wrong == 0 ? done + " answers are as due" : wrong + " of " + done + " answers are not as due");
        if (wrong != 0) System.exit(1);
    }
}
