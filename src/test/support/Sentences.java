/** Runs tests that each bear the sentence they hold the class to, and tells which sentence is broken. */
final class Sentences {
    private static String sentence = "";
    private static int tests = 0;
    private static int wrong = 0;

    private Sentences() {
    }

    static void test(String said, Runnable body) {
        sentence = said;
        tests++;
        try {
            body.run();
        } catch (RuntimeException thrown) {
            wrong("threw " + thrown);
        }
    }

    static void wrong(String what) {
        wrong++;
        System.out.println("'" + sentence + "': " + what);
    }

    static void end() {
        System.out.println(tests + " tests, " + wrong + " wrong answers");
        if (wrong != 0) {
            System.exit(1);
        }
    }
}
