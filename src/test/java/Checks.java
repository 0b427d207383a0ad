/** What the tests share: a call's answer against the one that is due, and the exit code. */
final class Checks {
    private static int wrong = 0;
    private static int made = 0;
    private static String sentence = "";

    private Checks() {
    }

    /** The sentence of the document that the next answers are about. */
    static void sentence(String text) {
        sentence = "'" + text + "': ";
    }

    static void due(String call, int got, int want) {
        made++;
        if (got != want) {
            fail(call + " answered " + got + ", due is " + want);
        }
    }

    static void fail(String text) {
        wrong++;
        System.out.println(sentence + text);
    }

    static void end() {
        System.out.println(made + " answers looked at, " + wrong + " wrong");
        if (wrong != 0 || made == 0) {
            System.exit(1);
        }
    }
}
