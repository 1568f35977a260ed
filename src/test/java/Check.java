/** Compares answers with what is due, and counts. */
final class Check {
    private static final int MOST_PRINTED = 40;
    private static int passed;
    private static int failed;

    private Check() {
    }

    static void due(String call, long got, long want) {
        if (got == want) {
            passed++;
            return;
        }
        failed++;
        if (failed <= MOST_PRINTED) {
            System.out.println(call + " answered " + got + ", due is " + want);
        }
    }

    static void holds(String what, boolean holds) {
        if (holds) {
            passed++;
            return;
        }
        failed++;
        if (failed <= MOST_PRINTED) {
            System.out.println("does not hold: " + what);
        }
    }

    static boolean hasFailed() {
        return failed > 0;
    }

    static void close() {
        System.out.println(passed + " answers as due, " + failed + " not as due");
        if (failed > 0) {
            System.exit(1);
        }
    }
}
