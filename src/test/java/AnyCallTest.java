import java.util.Random;

/** Calls with any arguments in any state, from fixed seeds: none throws, and questions between them change nothing. */
final class AnyCallTest {
    private static final String[] LINES = {"place a;", "place b;", "place c empty;", "place d;", "way a b minutes 9;",
        "way b c minutes 50;", "person p at a hire 3;", "person q at b hire 0;", "person r at a hire 9;", "dog g at b;",
        "errand p at b stroke 2 worth 40;", "errand q at c stroke 1 worth 5;", "strokes 2;", "strokes 8;", "hour 30;",
        "rule here < 3;", "rule 1;", "rule here / (here - 1) * 9999 * 9999 * 9999 / (0 - 1);", "p b;", "q a b;", "place"};
    private static final int[] NUMBERS = {Integer.MIN_VALUE, Integer.MAX_VALUE, -2, -1, 6, 7, 8, 9, 13, 40, 999, 1000, 1600};
    private static final int CALLS = 28;
    /** From this one on: town and plan, of a text. */
    private static final int TEXTS = 28;
    /** The calls that ask and change nothing. */
    private static final int[] QUESTIONS = {4, 5, 6, 7, 8, 9, 10, 11, 12, 13, 14, 15, 16, 17, 23, 24, 27};

    public static void main(String[] args) {
        for (int seed = 1; seed <= 400; seed++) {
            Random random = new Random(seed);
            Random asking = new Random(-seed);
            Used alone = new Used();
            Used asked = new Used();
            while (alone.calls() < 300 && asked.calls() < 400) {
                int call = random.nextInt(12) == 0 ? TEXTS + random.nextInt(2) : random.nextInt(CALLS);
                int[] five = random.ints(5, 0, 6).map(i -> random.nextInt(4) == 0 ? any(random) : i).toArray();
                String text = call >= TEXTS ? text(random) : "";
                int answer = answer(alone, call, five, text);
                Check.due("seed " + seed + ", call " + call + " behind questions", answer(asked, call, five, text), answer);
                for (int n = asking.nextInt(3); n > 0; n--) {
                    int[] other = asking.ints(5, 0, 6).toArray();
                    answer(asked, QUESTIONS[asking.nextInt(QUESTIONS.length)], other, "");
                }
            }
        }
        Check.close();
    }

    private static int any(Random random) {
        return NUMBERS[random.nextInt(NUMBERS.length)];
    }

    private static String text(Random random) {
        StringBuilder text = new StringBuilder();
        for (int line = 0; line < 18; line++) {
            text.append(random.nextInt(7) > 0 ? LINES[line] : "");
        }
        String all = text.toString();
        if (random.nextBoolean()) {
            // so that hour, strokes and rule are told once, and the town may stand
            all = all.replaceFirst("strokes 2;(strokes 8;)?", "").replaceFirst("rule here < 3;", "").replaceFirst("rule 1;", "");
        }
        return random.nextInt(3) > 0 ? all : LINES[random.nextInt(LINES.length)];
    }

    private static int answer(Used x, int call, int[] n, String text) {
        return switch (call) {
            case 0 -> x.feed(n[0], n[1], n[2], n[3], n[4]);
            case 1 -> x.end(n[0]);
            case 2 -> x.town();
            case 3 -> x.plan();
            case 4 -> x.fault(n[0]);
            case 5 -> x.minutes(n[0], n[1]);
            case 6 -> x.right(n[0], n[1], n[2]);
            case 7 -> x.judge(n[0]);
            case 8 -> x.value(n[0]);
            case 9 -> x.best(n[0]);
            case 10 -> x.bestAt(n[0], n[1], n[2]);
            case 11 -> x.breaks(n[0], n[1] - 1);
            case 12 -> x.spare(n[0], n[1]);
            case 13 -> x.often(n[0], n[1]);
            case 14 -> x.built(n[0], n[1], n[2] - 1);
            case 15 -> x.meet(n[0], n[1], n[2]);
            case 16 -> x.mend();
            case 17 -> x.where(n[0]);
            case 18 -> x.send(n[0], n[1]) ? 1 : 0;
            case 19 -> x.strike();
            case 20 -> x.count(n[0], n[1], n[2]);
            case 21 -> x.untell(n[0]) ? 1 : 0;
            case 22 -> x.later(n[0]);
            case 23 -> x.states(n[0], n[1]);
            case 24 -> x.sure(n[0], n[1], n[2], n[3]);
            case 25 -> x.image(n[0]);
            case 26 -> x.back(n[0]);
            case 27 -> x.about(n[0]);
            case TEXTS -> x.town(text);
            default -> x.plan(text);
        };
    }

    private AnyCallTest() {
    }
}
