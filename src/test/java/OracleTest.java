import java.util.ArrayList;
import java.util.HashSet;
import java.util.List;
import java.util.Random;
import java.util.Set;

/** Small towns from fixed seeds: what the class answers against a plain search of all plans. */
final class OracleTest {
    private static final int NONE = EvenTown.NONE;
    private static final int GAP = EvenTown.GAP;

    public static void main(String[] args) {
        int lawful = 0;
        for (int seed = 1; seed <= 700; seed++) {
            Random random = new Random(seed);
            Model model = Model.town(random);
            String name = "seed " + seed + " ";
            Used x = Used.of(model.text());
            checkRules(name, model, x);
            DayChecks.best(name, model, x, Model::best);
            DayChecks.offers(name, model, x, random, Model::best, 100000);
            lawful += x.best(0) != GAP ? 1 : 0;
            x = Used.of(model.text());
            checkPlans(name, model, x, random);
            checkStates(name, model, x, random);
            checkEarnest(name, model, x, random);
        }
        Check.due("enough towns with a lawful day: " + lawful, lawful > 250, true);
        Check.close();
    }

    private static void checkRules(String name, Model model, Used x) {
        long[][] minutes = model.minutes();
        for (int place = 0; place < model.places; place++) {
            for (int other = 0; other < model.places; other++) {
                long least = minutes[place][other];
                Check.due(name + "minutes", x.minutes(place, other), least > 10000 ? NONE : least);
            }
            for (int many = 0; many < 6; many++) {
                for (int stroke = 1; stroke <= 8; stroke++) {
                    Check.due(name + "right", x.right(place, many, stroke), model.right(place, many, stroke) ? 1 : 0);
                }
            }
        }
    }

    /** Some of the lawful plans, and plans at random, told in a text. */
    private static void checkPlans(String name, Model model, Used x, Random random) {
        List<int[][]> lawful = model.plans();
        for (int n = 0; n < 6; n++) {
            int[][] plan;
            if (n % 2 == 0 && !lawful.isEmpty()) {
                plan = lawful.get(random.nextInt(lawful.size()));
            } else {
                plan = new int[model.strokes][];
                for (int stroke = 0; stroke < model.strokes; stroke++) {
                    plan[stroke] = random.ints(model.persons, 0, model.places).toArray();
                }
            }
            Check.due(name + "lines", x.plan(planText(model, plan, random)), model.persons);
            int[] judged = judged(model, plan);
            for (int what = 0; what < 3; what++) {
                Check.due(name + "judge " + what, x.judge(what), judged[what]);
                long value = judged[3] == 1 ? model.value(what, plan, model.minutes()) : GAP;
                Check.due(name + "value " + what, x.value(what), value);
            }
        }
    }

    private static String planText(Model model, int[][] plan, Random random) {
        StringBuilder text = new StringBuilder();
        for (int person = 0; person < model.persons; person++) {
            text.append((char) ('p' + person));
            int last = model.strokes;
            while (last > 1 && plan[last - 1][person] == plan[last - 2][person] && random.nextBoolean()) {
                last--;
            }
            for (int stroke = 0; stroke < last; stroke++) {
                text.append(' ').append((char) ('a' + plan[stroke][person]));
            }
            text.append(';');
        }
        return text.toString();
    }

    /** Kind, stroke, number; and 1 if the plan is lawful. */
    private static int[] judged(Model model, int[][] plan) {
        long[][] minutes = model.minutes();
        int[] first = null;
        boolean lawful = true;
        for (int stroke = 1; stroke <= model.strokes; stroke++) {
            List<int[]> here = new ArrayList<>();
            int[] before = stroke == 1 ? model.home : plan[stroke - 2];
            int[] now = plan[stroke - 1];
            for (int person = 0; person < model.persons; person++) {
                if (minutes[before[person]][now[person]] > model.hour) {
                    here.add(new int[] {1, stroke, person, 0});
                }
            }
            for (int place = 0; place < model.places; place++) {
                if (!model.right(place, model.crowd(now, place), stroke)) {
                    here.add(new int[] {2, stroke, place, 0});
                }
            }
            lawful &= here.isEmpty();
            for (int i = 0; i < model.errands.length; i++) {
                int[] errand = model.errands[i];
                if (errand[2] == stroke && now[errand[0]] != errand[1]) {
                    here.add(new int[] {3, stroke, i, 0});
                }
            }
            if (first == null && !here.isEmpty()) {
                first = here.get(0);
            }
        }
        int[] judged = first == null ? new int[] {0, NONE, NONE, 0} : first.clone();
        judged[3] = lawful ? 1 : 0;
        return judged;
    }

    private static void checkStates(String name, Model model, Used x, Random random) {
        List<int[][]> lawful = model.plans();
        checkMeetings(name, model, x, lawful);
        List<int[]> told = new ArrayList<>();
        int time = 0;
        for (int n = 0; n < 5; n++) {
            int[] count = {1 + random.nextInt(8), random.nextInt(model.places), random.nextInt(3), time, 9999};
            if (!lawful.isEmpty() && random.nextInt(4) > 0) {
                int[][] plan = lawful.get(random.nextInt(lawful.size()));
                count[0] = 1 + random.nextInt(model.strokes);
                count[2] = model.crowd(plan[count[0] - 1], count[1]);
            }
            Check.due(name + "count", x.count(count[0], count[1], count[2]), told.size());
            told.add(count);
            int by = random.nextInt(3);
            time += by;
            Check.due(name + "later", x.later(by), time);
            int which = random.nextInt(8);
            boolean can = which < told.size() && told.get(which)[4] == 9999;
            Check.due(name + "untell", x.untell(which), can);
            if (can) {
                told.get(which)[4] = time;
            }
        }
        for (int n = 0; n < 4; n++) {
            checkAgreeing(name, model, x, told, random.nextInt(time + 3) - 1, random);
        }
    }

    private static void checkMeetings(String name, Model model, Used x, List<int[][]> lawful) {
        for (int a = 0; a < model.persons; a++) {
            for (int b = 0; b < model.persons; b++) {
                for (int place = 0; place < model.places; place++) {
                    int first = NONE;
                    for (int stroke = model.strokes; stroke >= 1; stroke--) {
                        for (int[][] plan : lawful) {
                            int[] now = plan[stroke - 1];
                            if (a != b && now[a] == place && now[b] == place && model.crowd(now, place) == 2) {
                                first = stroke;
                            }
                        }
                    }
                    Check.due(name + "meet", x.meet(a, b, place), first);
                }
            }
        }
    }

    private static void checkAgreeing(String name, Model model, Used x, List<int[]> told, int k, Random random) {
        Model known = model.with();
        known.counts = new ArrayList<>();
        for (int[] count : told) {
            if (count[3] <= k && count[4] > k) {
                known.counts.add(count);
            }
        }
        List<int[][]> agreeing = known.plans();
        int stroke = 1 + random.nextInt(model.strokes);
        Set<String> states = new HashSet<>();
        for (int[][] plan : agreeing) {
            states.add(java.util.Arrays.toString(plan[stroke - 1]));
        }
        Check.due(name + "states", x.states(stroke, k), states.size());
        for (int person = 0; person < model.persons; person++) {
            for (int place = 0; place < model.places; place++) {
                int there = 0;
                for (int[][] plan : agreeing) {
                    there += plan[stroke - 1][person] == place ? 1 : 0;
                }
                int sure = there == 0 ? 0 : there == agreeing.size() ? 2 : 1;
                Check.due(name + "sure", x.sure(person, place, stroke, k), sure);
            }
        }
    }

    private static void checkEarnest(String name, Model model, Used x, Random random) {
        int[] at = model.home.clone();
        int[] sent = at.clone();
        int odd = 0;
        long[][] minutes = model.minutes();
        for (int stroke = 1; stroke <= 8; stroke++) {
            Check.due(name + "mend", x.mend(), mending(model, at, minutes));
            for (int n = 0; n < 4 && model.persons > 0; n++) {
                int person = random.nextInt(model.persons);
                int place = random.nextInt(model.places);
                boolean gets = minutes[at[person]][place] <= model.hour;
                Check.due(name + "send", x.send(person, place), gets);
                sent[person] = gets ? place : sent[person];
            }
            at = sent.clone();
            int wrong = 0;
            for (int place = 0; place < model.places; place++) {
                wrong += model.right(place, model.crowd(at, place), stroke) ? 0 : 1;
            }
            odd += wrong;
            Check.due(name + "strike", x.strike(), wrong);
            Check.due(name + "odd", x.about(9), odd);
            for (int person = 0; person < model.persons; person++) {
                Check.due(name + "where", x.where(person), at[person]);
            }
        }
    }

    /** The least walk of all persons to any even state: not by pairing places. */
    private static long mending(Model model, int[] at, long[][] minutes) {
        long least = Long.MAX_VALUE / 4;
        for (int[] state : model.states()) {
            boolean even = true;
            for (int place = 0; place < model.places; place++) {
                even &= model.crowd(state, place) % 2 == 0;
            }
            long walk = 0;
            for (int person = 0; person < model.persons; person++) {
                walk += Math.min(minutes[at[person]][state[person]], 1000000);
            }
            least = even ? Math.min(least, walk) : least;
        }
        return least >= 1000000 ? NONE : least;
    }

    private OracleTest() {
    }
}
