/** Counts answers that are not as due and prints them. */
final class Check {
    private static int made = 0;
    private static int wrong = 0;
    private static String sentence = "";
    private static int madeBefore = 0;

    private Check() {
    }

    /** The answers from here on are looked at for this sentence of the document. */
    static void about(String text) {
        endSentence();
        sentence = text;
        madeBefore = made;
    }

    /** A sentence that no answer was looked at for has no test, whatever its method is called. */
    private static void endSentence() {
        if (!sentence.isEmpty() && made == madeBefore) {
            wrong++;
            System.out.println("no answer was looked at for: " + sentence);
        }
    }

    static void same(String call, long got, long want) {
        made++;
        if (got != want) {
            tell(call, Long.toString(got), Long.toString(want));
        }
    }

    static void text(String call, String got, String want) {
        made++;
        if (!got.equals(want)) {
            tell(call, got, want);
        }
    }

    private static void tell(String call, String got, String want) {
        wrong++;
        System.out.println(call + " answered " + got + ", due is " + want);
        if (!sentence.isEmpty()) {
            System.out.println("    for the sentence: " + sentence);
        }
    }

    static void yes(String call, boolean got) {
        same(call, got ? 1 : 0, 1);
    }

    static void no(String call, boolean got) {
        same(call, got ? 1 : 0, 0);
    }

    static boolean anyWrong() {
        return wrong != 0;
    }

    static void end() {
        endSentence();
        System.out.println(made + " answers looked at, " + wrong + " not as due");
        if (wrong != 0 || made == 0) {
            System.exit(1);
        }
    }
}
