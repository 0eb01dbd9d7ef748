/** Counts and prints the answers that are not as due. */
final class Check {
    private static int wrong = 0;
    private static int looked = 0;
    private static int tests = 0;
    private static String current = "";

    private Check() {
    }

    static void due(String what, long got, long want) {
        looked++;
        if (got != want) {
            wrong++;
            System.out.println(current + what + " answered " + got + ", due is " + want);
        }
    }

    static void due(String what, boolean got, boolean want) {
        due(what, got ? 1L : 0L, want ? 1L : 0L);
    }

    /** One test with a name of its own. No call ever throws, so a throw is a wrong answer like another. */
    static void test(String name, Runnable body) {
        int before = looked;
        tests++;
        current = name + ": ";
        try {
            body.run();
        } catch (Throwable thrown) {
            wrong++;
            System.out.println(current + "threw " + thrown);
        }
        current = "";
        due("'" + name + "' looks at an answer", looked > before, true);
    }

    static boolean anyWrong() {
        return wrong != 0;
    }

    static void end() {
        String named = tests == 0 ? "" : tests + " named tests, ";
        System.out.println(named + looked + " answers looked at, " + wrong + " not as due");
        if (anyWrong()) {
            System.exit(1);
        }
    }
}
