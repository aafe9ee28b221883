/** Counts tests by their names; a test is wrong if one of its answers is, or if it throws. */
final class Check {
    private static String name = "";
    private static int wrongHere;
    private static int passed;
    private static int failed;

    private Check() {
    }

    static void test(String sentence, Runnable body) {
        name = sentence;
        wrongHere = 0;
        try {
            body.run();
        } catch (RuntimeException thrown) {
            wrong("threw " + thrown);
        }
        if (wrongHere == 0) {
            passed++;
        } else {
            failed++;
        }
    }

    static void due(String what, int got, int want) {
        if (got != want) {
            wrong(what + " answered " + got + ", due is " + want);
        }
    }

    static void wrong(String what) {
        wrongHere++;
        System.out.println(name + ": " + what);
    }

    static void end() {
        System.out.println(passed + " passed, " + failed + " failed");
        if (failed != 0) {
            System.exit(1);
        }
    }
}
