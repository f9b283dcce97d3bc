import java.util.ArrayList;
import java.util.Arrays;
import java.util.List;
import java.util.Random;

/** Larger towns from fixed seeds: what the class answers against tables of all pairs of states. */
final class LargeTest {
    private static final int NONE = EvenTown.NONE;
    private static final int GAP = EvenTown.GAP;
    private static final long NEVER = Long.MIN_VALUE / 1024;
    /** Places and persons. */
    private static final int[][] SIZES = {{2, 5}, {3, 5}, {4, 4}, {6, 3}, {3, 4}, {5, 3}, {6, 2}, {5, 4}};

    /** All states of a town, and the minutes from each to each. */
    private static final class Tables {
        private final Model model;
        private final int[][] states;
        /** NONE if not all get there. */
        private final int[][] walk;
        private final int home;

        Tables(Model of) {
            model = of;
            states = of.states().toArray(new int[0][]);
            walk = new int[states.length][states.length];
            long[][] minutes = of.minutes();
            int first = 0;
            for (int from = 0; from < states.length; from++) {
                first = Arrays.equals(states[from], of.home) ? from : first;
                for (int to = 0; to < states.length; to++) {
                    walk[from][to] = walkOf(minutes, states[from], states[to]);
                }
            }
            home = first;
        }

        private int walkOf(long[][] minutes, int[] from, int[] to) {
            int all = 0;
            for (int person = 0; person < from.length; person++) {
                long one = minutes[from[person]][to[person]];
                if (one > model.hour) {
                    return NONE;
                }
                all += (int) one;
            }
            return all;
        }

        /** What a state at a stroke adds; NEVER if it is not lawful, or if what must be done is not. */
        private long gain(int what, int stroke, int[] state) {
            if (!model.allRight(state, stroke)) {
                return NEVER;
            }
            long gain = 0;
            for (int person = 0; person < state.length; person++) {
                boolean busy = false;
                for (int[] errand : model.errands) {
                    if (errand[0] == person && errand[2] == stroke) {
                        boolean done = errand[1] == state[person];
                        busy |= done;
                        gain += what == 0 && done ? errand[3] : what > 0 && !done ? NEVER : 0;
                    }
                }
                boolean away = state[person] != model.home[person];
                gain -= what == 0 && away ? model.hire[person] : what == 1 && away && !busy ? 1 : 0;
            }
            return gain < NEVER / 2 ? NEVER : gain;
        }

        int[] best(int what) {
            for (int[] errand : model.errands) {
                if (what > 0 && errand[2] > model.strokes) {
                    return new int[] {GAP};
                }
            }
            long[][] gains = new long[model.strokes + 1][states.length];
            long[][] rest = new long[model.strokes + 1][states.length];
            for (int stroke = model.strokes; stroke > 0; stroke--) {
                for (int i = 0; i < states.length; i++) {
                    gains[stroke][i] = gain(what, stroke, states[i]);
                }
                for (int from = 0; from < states.length; from++) {
                    int to = next(what, gains[stroke], rest[stroke], from);
                    rest[stroke - 1][from] = to == NONE ? NEVER : worth(what, gains[stroke], rest[stroke], from, to);
                }
            }
            return rest[0][home] == NEVER ? new int[] {GAP} : row(what, gains, rest);
        }

        private long worth(int what, long[] gains, long[] rest, int from, int to) {
            boolean can = walk[from][to] != NONE && gains[to] != NEVER && rest[to] != NEVER;
            return can ? gains[to] + rest[to] - (what == 2 ? walk[from][to] : 0) : NEVER;
        }

        /** The first of those states that are worth most behind one. */
        private int next(int what, long[] gains, long[] rest, int from) {
            int best = NONE;
            long most = NEVER;
            for (int to = 0; to < states.length; to++) {
                long worth = worth(what, gains, rest, from, to);
                if (worth > most) {
                    most = worth;
                    best = to;
                }
            }
            return best;
        }

        private int[] row(int what, long[][] gains, long[][] rest) {
            int persons = model.persons;
            int[] row = new int[1 + model.strokes * persons];
            row[0] = (int) rest[0][home];
            int at = home;
            for (int stroke = 1; stroke <= model.strokes; stroke++) {
                at = next(what, gains[stroke], rest[stroke], at);
                System.arraycopy(states[at], 0, row, 1 + (stroke - 1) * persons, persons);
            }
            return row;
        }

        /** For each stroke whether a plan that agrees stands in a state. */
        boolean[][] standing() {
            boolean[][] ahead = new boolean[model.strokes + 1][states.length];
            ahead[0][home] = true;
            for (int stroke = 1; stroke <= model.strokes; stroke++) {
                for (int to = 0; to < states.length; to++) {
                    ahead[stroke][to] = model.allRight(states[to], stroke) && anyGoes(ahead[stroke - 1], to);
                }
            }
            for (int stroke = model.strokes - 1; stroke > 0; stroke--) {
                for (int from = 0; from < states.length; from++) {
                    ahead[stroke][from] &= anyGoes(ahead[stroke + 1], from);
                }
            }
            return ahead;
        }

        private boolean anyGoes(boolean[] others, int state) {
            for (int other = 0; other < states.length; other++) {
                if (others[other] && walk[other][state] != NONE) {
                    return true;
                }
            }
            return false;
        }
    }

    public static void main(String[] args) {
        int lawful = 0;
        for (int seed = 1; seed <= 256; seed++) {
            Random random = new Random(seed);
            Model model = town(random, SIZES[seed % SIZES.length]);
            String name = "seed " + seed + " ";
            Used x = Used.of(model.text());
            DayChecks.best(name, model, x, LargeTest::best);
            DayChecks.offers(name, model, x, random, LargeTest::best, Double.MAX_VALUE);
            lawful += x.best(1) != GAP ? 1 : 0;
            checkStates(name, model, random);
        }
        Check.due("enough towns where all can be done: " + lawful, lawful > 60, true);
        Check.close();
    }

    private static int[] best(Model model, int what) {
        return new Tables(model).best(what);
    }

    private static Model town(Random random, int[] size) {
        Model model = new Model();
        model.places = size[0];
        model.persons = size[1];
        model.strokes = random.nextInt(4) == 0 ? 4 : 5 + random.nextInt(4);
        model.hour = 15 + random.nextInt(30);
        model.empty = new boolean[model.places];
        model.empty[model.places - 1] = random.nextInt(4) == 0;
        model.ways = new long[model.places][model.places];
        for (int a = 0; a < model.places; a++) {
            for (int b = 0; b < a; b++) {
                long way = random.nextInt(4) > 0 ? 1 + random.nextInt(50) : 0;
                model.ways[a][b] = way;
                model.ways[b][a] = way;
            }
        }
        model.home = random.ints(model.persons, 0, model.places).toArray();
        model.hire = random.ints(model.persons, 0, 30).toArray();
        model.dogs = 3;
        model.dogAt = random.ints(3, 0, model.places).toArray();
        model.errands = new int[random.nextInt(9)][];
        for (int i = 0; i < model.errands.length; i++) {
            int person = random.nextInt(model.persons);
            int stroke = 1 + random.nextInt(model.strokes);
            model.errands[i] = new int[] {person, (i + stroke) % model.places, stroke, random.nextInt(200)};
        }
        model.rule = rule(random, model);
        return model;
    }

    /** Rules by which much is right. */
    private static Expression rule(Random random, Model model) {
        Expression here = new Expression.Named(0);
        Expression few = new Expression.Both("<", here, new Expression.Number(model.persons));
        return switch (random.nextInt(4)) {
            case 0 -> model.persons % 2 == 0 ? null : few;
            case 1 -> few;
            case 2 -> new Expression.Not(new Expression.Wrapped(new Expression.Both("and",
                    new Expression.Both("=", here, new Expression.Number(1)),
                    new Expression.Both("=", new Expression.Named(2), new Expression.Number(random.nextInt(3))))));
            default -> new Expression.Both("or", new Expression.Both("<", here, new Expression.Named(1)),
                    new Expression.Both(">", here, new Expression.Named(3)));
        };
    }

    private static void checkStates(String name, Model model, Random random) {
        Used x = Used.of(model.text());
        Tables all = new Tables(model);
        boolean[][] free = all.standing();
        checkMeetings(name, model, x, all, free);
        Model known = model.with();
        known.counts = new ArrayList<>();
        for (int n = 0; n < 4; n++) {
            int stroke = 1 + random.nextInt(model.strokes);
            int place = random.nextInt(model.places);
            int many = crowdOfAny(model, all, free[stroke], place, random);
            Check.due(name + "count", x.count(stroke, place, many), n);
            known.counts.add(new int[] {stroke, place, many});
            boolean[][] standing = new Tables(known).standing();
            int asked = 1 + random.nextInt(model.strokes);
            checkAt(name, model, x, all.states, standing[asked], asked);
        }
    }

    /** How many are at a place in some state that can be; 2 if none can. */
    private static int crowdOfAny(Model model, Tables all, boolean[] free, int place, Random random) {
        List<int[]> can = new ArrayList<>();
        for (int i = 0; i < all.states.length; i++) {
            if (free[i]) {
                can.add(all.states[i]);
            }
        }
        return can.isEmpty() ? 2 : model.crowd(can.get(random.nextInt(can.size())), place);
    }

    private static void checkAt(String name, Model model, Used x, int[][] states, boolean[] standing, int stroke) {
        int many = 0;
        int[][] there = new int[model.persons][model.places];
        for (int i = 0; i < states.length; i++) {
            many += standing[i] ? 1 : 0;
            for (int person = 0; person < model.persons && standing[i]; person++) {
                there[person][states[i][person]]++;
            }
        }
        Check.due(name + "states", x.states(stroke, 0), many);
        for (int person = 0; person < model.persons; person++) {
            for (int place = 0; place < model.places; place++) {
                int sure = there[person][place] == 0 ? 0 : there[person][place] == many ? 2 : 1;
                Check.due(name + "sure", x.sure(person, place, stroke, 0), sure);
            }
        }
    }

    private static void checkMeetings(String name, Model model, Used x, Tables all, boolean[][] free) {
        for (int a = 0; a < model.persons; a++) {
            for (int b = a + 1; b < model.persons; b++) {
                for (int place = 0; place < model.places; place++) {
                    int first = NONE;
                    for (int stroke = model.strokes; stroke > 0; stroke--) {
                        for (int i = 0; i < all.states.length; i++) {
                            int[] state = all.states[i];
                            boolean two = state[a] == place && state[b] == place && model.crowd(state, place) == 2;
                            first = free[stroke][i] && two ? stroke : first;
                        }
                    }
                    Check.due(name + "meet", x.meet(a, b, place), first);
                }
            }
        }
    }

    private LargeTest() {
    }
}
