import java.util.Random;

/** Calls with any arguments in any state, from fixed seeds: none throws, none counts as wrong what can't be. */
final class AnyCallTest {
    private static final String[] LINES = {"place a;", "place b;", "place c empty;", "place d;", "way a b minutes 9;",
        "way b c minutes 50;", "person p at a hire 3;", "person q at b hire 0;", "person r at a hire 9;", "dog g at b;",
        "errand p at b stroke 2 worth 40;", "errand q at c stroke 1 worth 5;", "strokes 2;", "strokes 8;", "hour 30;",
        "rule here < 3;", "rule 1;", "rule here / (here - 1) * 9999 * 9999 * 9999 / (0 - 1);", "p b;", "q a b;", "place"};
    private static final int[] NUMBERS = {Integer.MIN_VALUE, Integer.MAX_VALUE, -2, -1, 6, 7, 8, 9, 13, 40, 999, 1000, 1600};

    private static Random random;

    public static void main(String[] args) {
        for (int seed = 1; seed <= 300; seed++) {
            random = new Random(seed);
            EvenTown x = new EvenTown();
            for (int call = 0; call < 512; call++) {
                if (random.nextInt(12) == 0) {
                    text(x);
                } else {
                    any(x);
                }
                Check.due("strokes", x.about(12) >= 1 && x.about(12) <= 8, true);
            }
        }
        Check.close();
    }

    private static int number() {
        return random.nextInt(4) == 0 ? NUMBERS[random.nextInt(NUMBERS.length)] : random.nextInt(6);
    }

    private static void text(EvenTown x) {
        StringBuilder text = new StringBuilder();
        for (int line = 0; line < 18; line++) {
            text.append(random.nextInt(7) > 0 ? LINES[line] : "");
        }
        Check.feed(x, random.nextBoolean() ? text.toString() : LINES[random.nextInt(LINES.length)]);
        if (random.nextBoolean()) {
            x.town();
        } else {
            x.plan();
        }
    }

    private static void any(EvenTown x) {
        switch (random.nextInt(28)) {
            case 0 -> x.feed(number(), number(), number(), number(), number());
            case 1 -> x.end(number());
            case 2 -> x.town();
            case 3 -> x.plan();
            case 4 -> x.fault(number());
            case 5 -> x.minutes(number(), number());
            case 6 -> x.right(number(), number(), number());
            case 7 -> x.judge(number());
            case 8 -> x.value(number());
            case 9 -> x.best(number());
            case 10 -> x.bestAt(number(), number(), number());
            case 11 -> x.breaks(number(), number());
            case 12 -> x.spare(number(), number());
            case 13 -> x.often(number(), number());
            case 14 -> x.built(number(), number(), number());
            case 15 -> x.meet(number(), number(), number());
            case 16 -> x.mend();
            case 17 -> x.where(number());
            case 18 -> x.send(number(), number());
            case 19 -> x.strike();
            case 20 -> x.count(number(), number(), number());
            case 21 -> x.untell(number());
            case 22 -> x.later(number());
            case 23 -> x.states(number(), number());
            case 24 -> x.sure(number(), number(), number(), number());
            case 25 -> x.image(number());
            case 26 -> x.back(number());
            default -> x.about(number());
        }
    }

    private AnyCallTest() {
    }
}
