/** Counts the answers that are not as due, and prints them. */
final class Check {
    private static final int MOST_PRINTED = 40;

    private static int wrong = 0;
    private static int printed = 0;

    private Check() {
    }

    static void due(String what, int got, int want) {
        if (got != want) {
            tell(what + " answered " + got + ", due is " + want);
        }
    }

    static void due(String what, boolean got, boolean want) {
        if (got != want) {
            tell(what + " answered " + got + ", due is " + want);
        }
    }

    static void due(String what, String got, String want) {
        if (!got.equals(want)) {
            tell(what + " answered\n" + got + "\ndue is\n" + want);
        }
    }

    private static void tell(String text) {
        wrong++;
        printed++;
        if (printed <= MOST_PRINTED) {
            System.out.println(text);
        } else if (printed == MOST_PRINTED + 1) {
            System.out.println(".. more answers that are not as due are counted, not printed ..");
        }
    }

    static void printAgain() {
        printed = 0;
    }

    static int wrongAnswers() {
        return wrong;
    }

    static void end() {
        System.out.println(wrong == 0 ? "all answers are as due" : wrong + " answers are not as due");
        if (wrong != 0) {
            System.exit(1);
        }
    }
}
