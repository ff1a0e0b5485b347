/** Counts the answers of a test's run, and prints those that are not the ones that are due. */
final class Due {
    private static final int MOST_PRINTED = 40;
    private static int passed = 0;
    private static int failed = 0;

    private Due() {
    }

    static void due(String what, long got, long want) {
        if (got == want) {
            passed++;
            return;
        }
        failed++;
        if (failed <= MOST_PRINTED) {
            System.out.println(what + " answered " + got + ", due is " + want);
        }
    }

    static boolean hasFailed() {
        return failed > 0;
    }

    static void end(String test) {
        System.out.println(test + ": " + passed + " answers as due, " + failed + " not");
        if (failed > 0) {
            System.exit(1);
        }
    }
}
