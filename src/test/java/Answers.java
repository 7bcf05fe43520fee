/** Counts and prints the answers that are not as due. */
final class Answers {
    private static int wrong = 0;

    private Answers() {
    }

    static void due(String call, int got, int want) {
        if (got != want) {
            wrong++;
            System.out.println(call + " answered " + got + ", due is " + want);
        }
    }

    static void holds(String claim, boolean isSo) {
        if (!isSo) {
            wrong++;
            System.out.println("doesn't hold: " + claim);
        }
    }

    static boolean areAllDue() {
        return wrong == 0;
    }

    static void end() {
        System.out.println(wrong == 0 ? "all answers are as due" : wrong + " answers are not as due");
        if (wrong != 0) {
            System.exit(1);
        }
    }
}
