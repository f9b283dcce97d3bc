/** Counts answers that are due and those that are not, and puts texts on the tape. */
final class Check {
    private static int passed;
    private static int failed;

    static void due(String what, long got, long want) {
        if (got == want) {
            passed++;
            return;
        }
        failed++;
        if (failed <= 40) {
            System.out.println(what + ": answered " + got + ", due is " + want);
        }
    }

    static void due(String what, boolean got, boolean want) {
        due(what, got ? 1 : 0, want ? 1 : 0);
    }

    /** Feeds a text (of signs 0 .. 255) behind what is on the tape; the last piece is filled up and cut off again. */
    static void feed(EvenTown x, String text) {
        int before = x.about(7);
        for (int i = 0; i < text.length(); i += 20) {
            x.feed(four(text, i), four(text, i + 4), four(text, i + 8), four(text, i + 12), four(text, i + 16));
        }
        x.end(before + text.length());
    }

    private static int four(String text, int from) {
        int four = 0;
        for (int i = from; i < from + 4; i++) {
            four = four << 8 | (i < text.length() ? text.charAt(i) : ' ');
        }
        return four;
    }

    static int town(EvenTown x, String text) {
        feed(x, text);
        return x.town();
    }

    static int plan(EvenTown x, String text) {
        feed(x, text);
        return x.plan();
    }

    static EvenTown made(String text) {
        EvenTown x = new EvenTown();
        due("a town without a fault: " + text, town(x, text) >= 0, true);
        return x;
    }

    /** The line that the runner adds up; exit code 1 if an answer was not due. */
    static void close() {
        System.out.println(passed + " passed, " + failed + " failed");
        if (failed > 0) {
            System.exit(1);
        }
    }

    private Check() {
    }
}
