/** Counts answers that are due and those that are not, under the promise and the sentence that they are of. */
final class Check {
    private static final int MINUTES_AT_MOST = 5;
    private static final int LINES_AT_MOST = 40;
    private static String promise = "";
    private static String sentence = "";
    private static int passed;
    private static int failed;

    static {
        Thread watch = new Thread(Check::endLate);
        watch.setDaemon(true);
        watch.start();
    }

    /** A call that never ends must fail a test, not hold it up. */
    private static void endLate() {
        try {
            Thread.sleep(MINUTES_AT_MOST * 60000L);
        } catch (InterruptedException e) {
            return;
        }
        System.out.println(promise + sentence + "does not end");
        Runtime.getRuntime().halt(1);
    }

    /** The promise that the next answers are of. */
    static void promise(int number, String name) {
        promise = "promise " + number + " (" + name + "): ";
        sentence = "";
    }

    /** The document's sentence that the next answers are of. */
    static void sentence(String words) {
        sentence = "\"" + words + "\": ";
    }

    static void due(String what, long got, long want) {
        if (got == want) {
            passed++;
            return;
        }
        failed++;
        if (failed <= LINES_AT_MOST) {
            System.out.println(promise + sentence + what + ": answered " + got + ", due is " + want);
        }
    }

    static void due(String what, boolean got, boolean want) {
        due(what, got ? 1 : 0, want ? 1 : 0);
    }

    /** How many there were; exit code 1 if an answer was not due. */
    static void close() {
        System.out.println(passed + " passed, " + failed + " failed");
        if (failed > 0) {
            System.exit(1);
        }
    }

    private Check() {
    }
}
