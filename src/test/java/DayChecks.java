import java.util.Random;

/** What best, bestAt, breaks, spare, often and built answer against another finder of the best day. */
final class DayChecks {
    private static final int NONE = EvenTown.NONE;
    private static final int GAP = EvenTown.GAP;

    /** The best value, and behind it its row, stroke by stroke and person by person; GAP alone, if there is none. */
    interface Finder {
        int[] best(Model model, int what);
    }

    static void best(String name, Model model, Used x, Finder finder) {
        for (int what = 0; what < 3; what++) {
            int[] best = finder.best(model, what);
            Check.due(name + "best " + what, x.best(what), best[0]);
            for (int stroke = 1; stroke <= model.strokes; stroke++) {
                for (int person = 0; person < model.persons; person++) {
                    int index = 1 + (stroke - 1) * model.persons + person;
                    int at = index < best.length ? best[index] : NONE;
                    Check.due(name + "bestAt " + what, x.bestAt(what, stroke, person), at);
                }
            }
        }
    }

    /** With n strokes for each one only if there are not more plans than the finder can look at. */
    static void offers(String name, Model model, Used x, Random random, Finder finder, double mostPlans) {
        breaks(name, model, x, random.nextInt(3), finder);
        int place = random.nextInt(model.places);
        int what = random.nextInt(3);
        Check.due(name + "spare", x.spare(place, what), finder.best(model.spared(place), what)[0]);
        often(name, model, x, random, finder, mostPlans);
        built(name, model, x, random, finder);
    }

    private static void breaks(String name, Model model, Used x, int what, Finder finder) {
        int[] most = {GAP, GAP};
        for (int stroke = 1; stroke <= model.strokes; stroke++) {
            most = better(most, finder.best(model.freed(stroke), what)[0], stroke);
        }
        Check.due(name + "breaks", x.breaks(what, -1), most[0]);
        Check.due(name + "breaks at", x.breaks(what, 0), most[1]);
    }

    private static void often(String name, Model model, Used x, Random random, Finder finder, double mostPlans) {
        int n = 2 + random.nextInt(3);
        int what = random.nextInt(3);
        Model often = model.often(n);
        if (often == null) {
            Check.due(name + "often never", x.often(n, what), GAP);
        } else if (Math.pow(model.places, model.persons * often.strokes) <= mostPlans) {
            Check.due(name + "often", x.often(n, what), finder.best(often, what)[0]);
        }
    }

    private static void built(String name, Model model, Used x, Random random, Finder finder) {
        int what = random.nextInt(3);
        int minutes = 1 + random.nextInt(40);
        int[] most = {GAP, GAP};
        for (int a = 0; a < model.places; a++) {
            for (int b = a + 1; b < model.places; b++) {
                most = better(most, finder.best(model.built(a, b, minutes), what)[0], 100 * a + b);
            }
        }
        Check.due(name + "built", x.built(minutes, what, -1), most[0]);
        Check.due(name + "built at", x.built(minutes, what, 0), most[1]);
    }

    private static int[] better(int[] most, int value, int at) {
        return value > most[0] ? new int[] {value, at} : most;
    }

    private DayChecks() {
    }
}
