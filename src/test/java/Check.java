/** Counts the answers that are not the ones that are due. */
final class Check {
    private static final int MOST_PRINTED = 100;
    private static int wrong = 0;
    private static int made = 0;
    private static int sentences = 0;
    private static int madeBefore = 0;
    private static String asked = "";

    private Check() {
    }

    /** What is checked from here on shows that these words of the document hold. */
    static void sentence(String section, String words) {
        endSentence();
        sentences++;
        madeBefore = made;
        asked = section + ", '" + words + "': ";
    }

    private static void endSentence() {
        // A loop that never turns would let a sentence pass without any answer.
        if (sentences > 0 && made == madeBefore) {
            due("a sentence without a check", true, false);
        }
    }

    static void due(String what, long got, long want) {
        made++;
        if (got != want) {
            wrong++;
            // A broken promise may spoil millions of answers; the first tell enough.
            if (wrong <= MOST_PRINTED) {
                System.out.println(asked + what + " answered " + got + ", due is " + want);
            }
        }
    }

    static void due(String what, boolean got, boolean want) {
        due(what, got ? 1L : 0L, want ? 1L : 0L);
    }

    static void finish() {
        endSentence();
        String told = sentences > 0 ? sentences + " sentences, " : "";
        System.out.println(told + made + " answers, " + wrong + " not as due");
        if (wrong != 0) {
            System.exit(1);
        }
    }
}
