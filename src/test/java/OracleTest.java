import java.util.ArrayList;
import java.util.HashSet;
import java.util.List;
import java.util.Random;
import java.util.Set;

/** Small towns from fixed seeds: what the class answers against a plain search of all plans. */
final class OracleTest {
    private static final int NONE = EvenTown.NONE;
    private static final int GAP = EvenTown.GAP;

    /** An expression of a rule: its text and its value. */
    private interface Expression {
        String text();

        int value(int here, int stroke, int place, int dogs);
    }

    private record Number(int number) implements Expression {
        public String text() {
            return "" + number;
        }

        public int value(int here, int stroke, int place, int dogs) {
            return number;
        }
    }

    private record Named(int which) implements Expression {
        public String text() {
            return List.of("here", "stroke", "place", "dogs").get(which);
        }

        public int value(int here, int stroke, int place, int dogs) {
            return which == 0 ? here : which == 1 ? stroke : which == 2 ? place : dogs;
        }
    }

    private record Not(Expression part) implements Expression {
        public String text() {
            return "not " + part.text();
        }

        public int value(int here, int stroke, int place, int dogs) {
            return part.value(here, stroke, place, dogs) == 0 ? 1 : 0;
        }
    }

    private record Both(String sign, Expression left, Expression right) implements Expression {
        public String text() {
            return left.text() + " " + sign + " " + right.text();
        }

        public int value(int here, int stroke, int place, int dogs) {
            int a = left.value(here, stroke, place, dogs);
            int b = right.value(here, stroke, place, dogs);
            return switch (sign) {
                case "or" -> a != 0 || b != 0 ? 1 : 0;
                case "and" -> a != 0 && b != 0 ? 1 : 0;
                case "<" -> a < b ? 1 : 0;
                case ">" -> a > b ? 1 : 0;
                case "=" -> a == b ? 1 : 0;
                case "+" -> a + b;
                case "-" -> a - b;
                case "*" -> a * b;
                default -> b == 0 ? 0 : a / b;
            };
        }
    }

    private record Wrapped(Expression part) implements Expression {
        public String text() {
            return "(" + part.text() + ")";
        }

        public int value(int here, int stroke, int place, int dogs) {
            return part.value(here, stroke, place, dogs);
        }
    }

    /** A town in plain fields, and what else is asked of its days. */
    private static final class Model implements Cloneable {
        int places;
        int persons;
        int dogs;
        int strokes = 3;
        int hour = 60;
        boolean[] empty;
        int[] home;
        int[] hire;
        int[] dogAt;
        int[][] errands;
        long[][] ways;
        Expression rule;
        int freeStroke = NONE;
        int freePlace = NONE;
        List<int[]> counts = List.of();

        Model with() {
            try {
                return (Model) clone();
            } catch (CloneNotSupportedException e) {
                throw new IllegalStateException(e);
            }
        }

        /** Minutes by asking for walks of more and more ways (not by way of each place, as the class does). */
        long[][] minutes() {
            long[][] walk = new long[places][places];
            for (int a = 0; a < places; a++) {
                for (int b = 0; b < places; b++) {
                    walk[a][b] = a == b ? 0 : Long.MAX_VALUE / 4;
                }
            }
            for (int n = 0; n < places; n++) {
                for (int a = 0; a < places; a++) {
                    for (int b = 0; b < places; b++) {
                        for (int c = 0; c < places; c++) {
                            if (ways[c][b] > 0) {
                                walk[a][b] = Math.min(walk[a][b], walk[a][c] + ways[c][b]);
                            }
                        }
                    }
                }
            }
            return walk;
        }

        boolean right(int place, int many, int stroke) {
            if (stroke == freeStroke || place == freePlace) {
                return true;
            }
            int there = 0;
            for (int dog = 0; dog < dogs; dog++) {
                there += dogAt[dog] == place ? 1 : 0;
            }
            boolean holds = rule == null ? many % 2 == 0 : rule.value(many, stroke, place, there) != 0;
            return holds && !(empty[place] && many > 0);
        }

        boolean allRight(int[] state, int stroke) {
            for (int place = 0; place < places; place++) {
                if (!right(place, crowd(state, place), stroke)) {
                    return false;
                }
            }
            for (int[] count : counts) {
                if (count[0] == stroke && crowd(state, count[1]) != count[2]) {
                    return false;
                }
            }
            return true;
        }

        int crowd(int[] state, int place) {
            int many = 0;
            for (int at : state) {
                many += at == place ? 1 : 0;
            }
            return many;
        }

        /** All lawful plans, the first row first. */
        List<int[][]> plans() {
            List<int[][]> all = new ArrayList<>();
            search(new int[strokes][], 0, minutes(), all);
            return all;
        }

        private void search(int[][] plan, int done, long[][] minutes, List<int[][]> all) {
            if (done == strokes) {
                all.add(plan.clone());
                return;
            }
            int[] before = done == 0 ? home : plan[done - 1];
            for (int[] state : states()) {
                boolean goes = true;
                for (int person = 0; person < persons; person++) {
                    goes &= minutes[before[person]][state[person]] <= hour;
                }
                if (goes && allRight(state, done + 1)) {
                    plan[done] = state;
                    search(plan, done + 1, minutes, all);
                }
            }
        }

        List<int[]> states() {
            List<int[]> all = new ArrayList<>();
            all.add(new int[persons]);
            for (int person = 0; person < persons; person++) {
                List<int[]> more = new ArrayList<>();
                for (int[] state : all) {
                    for (int place = 0; place < places; place++) {
                        int[] next = state.clone();
                        next[person] = place;
                        more.add(next);
                    }
                }
                all = more;
            }
            return all;
        }

        boolean isDone(int[] errand, int[][] plan) {
            return errand[2] <= strokes && plan[errand[2] - 1][errand[0]] == errand[1];
        }

        /** The value of a lawful plan. */
        long value(int what, int[][] plan, long[][] minutes) {
            long worth = 0;
            boolean allDone = true;
            for (int[] errand : errands) {
                allDone &= isDone(errand, plan);
                worth += isDone(errand, plan) ? errand[3] : 0;
            }
            if (what > 0 && !allDone) {
                return GAP;
            }
            long value = what == 0 ? worth : 0;
            for (int stroke = 1; stroke <= strokes; stroke++) {
                for (int person = 0; person < persons; person++) {
                    int from = stroke == 1 ? home[person] : plan[stroke - 2][person];
                    int at = plan[stroke - 1][person];
                    if (what == 2) {
                        value -= minutes[from][at];
                    } else if (at != home[person]) {
                        boolean busy = false;
                        for (int[] errand : errands) {
                            busy |= errand[0] == person && errand[2] == stroke && isDone(errand, plan);
                        }
                        value -= what == 0 ? hire[person] : busy ? 0 : 1;
                    }
                }
            }
            return value;
        }

        /** The best plan's value, and its row behind it; GAP alone, if there is none. */
        int[] best(int what) {
            long[][] minutes = minutes();
            long most = GAP;
            int[][] row = null;
            for (int[][] plan : plans()) {
                long value = value(what, plan, minutes);
                if (value > most) {
                    most = value;
                    row = plan;
                }
            }
            int[] answer = new int[1 + (row == null ? 0 : strokes * persons)];
            answer[0] = (int) most;
            for (int i = 1; i < answer.length; i++) {
                answer[i] = row[(i - 1) / persons][(i - 1) % persons];
            }
            return answer;
        }

        String text() {
            StringBuilder text = new StringBuilder();
            for (int place = 0; place < places; place++) {
                text.append("place ").append((char) ('a' + place)).append(empty[place] ? " empty;" : ";");
            }
            for (int a = 0; a < places; a++) {
                for (int b = 0; b < a; b++) {
                    if (ways[a][b] > 0) {
                        text.append("way ").append((char) ('a' + a)).append(' ').append((char) ('a' + b));
                        text.append(" minutes ").append(ways[a][b]).append(";\n");
                    }
                }
            }
            for (int person = 0; person < persons; person++) {
                text.append("person ").append((char) ('p' + person)).append(" at ");
                text.append((char) ('a' + home[person])).append(" hire ").append(hire[person]).append(';');
            }
            for (int[] errand : errands) {
                text.append("errand ").append((char) ('p' + errand[0])).append(" at ").append((char) ('a' + errand[1]));
                text.append(" stroke ").append(errand[2]).append(" worth ").append(errand[3]).append(';');
            }
            if (rule != null) {
                text.append("rule ").append(rule.text()).append(';');
            }
            text.append("hour ").append(hour).append(";strokes ").append(strokes).append(';');
            for (int dog = 0; dog < dogs; dog++) {
                text.append("dog g").append((char) ('a' + dog)).append(" at ").append((char) ('a' + dogAt[dog])).append(';');
            }
            return text.toString();
        }
    }

    public static void main(String[] args) {
        int lawful = 0;
        for (int seed = 1; seed <= 700; seed++) {
            Random random = new Random(seed);
            Model model = town(random);
            EvenTown x = Check.made(model.text());
            String name = "seed " + seed + " ";
            checkRules(name, model, x);
            checkBest(name, model, x);
            checkOffers(name, model, x, random);
            checkPlans(name, model, x, random);
            checkStates(name, model, x, random);
            checkEarnest(name, model, x, random);
            lawful += x.best(0) != GAP ? 1 : 0;
        }
        Check.due("enough towns with a lawful day: " + lawful, lawful > 250, true);
        Check.close();
    }

    private static Model town(Random random) {
        Model model = new Model();
        model.persons = random.nextInt(5);
        model.places = model.persons > 3 ? 1 + random.nextInt(2) : 1 + random.nextInt(4);
        model.dogs = random.nextInt(4);
        long states = Math.round(Math.pow(model.places, model.persons));
        do {
            model.strokes = 1 + random.nextInt(model.persons < 2 ? 8 : 4);
        } while (Math.pow(states, model.strokes) > 30000);
        model.hour = 1 + random.nextInt(60);
        model.empty = new boolean[model.places];
        model.ways = new long[model.places][model.places];
        for (int a = 0; a < model.places; a++) {
            model.empty[a] = random.nextInt(9) == 0;
            for (int b = 0; b < a; b++) {
                long way = random.nextInt(3) > 0 ? 1 + random.nextInt(60) : 0;
                model.ways[a][b] = way;
                model.ways[b][a] = way;
            }
        }
        model.home = random.ints(model.persons, 0, model.places).toArray();
        model.hire = random.ints(model.persons, 0, 5).toArray();
        model.dogAt = random.ints(model.dogs, 0, model.places).toArray();
        int errands = model.persons == 0 ? 0 : random.nextInt(4);
        model.errands = new int[errands][];
        for (int i = 0; i < errands; i++) {
            model.errands[i] = new int[] {random.nextInt(model.persons), random.nextInt(model.places),
                1 + random.nextInt(random.nextInt(6) == 0 ? 8 : model.strokes), random.nextInt(20)};
        }
        model.rule = switch (random.nextInt(7)) {
            case 0 -> null;
            case 1 -> new Both("<", new Named(0), new Number(1 + random.nextInt(4)));
            case 2, 3 -> new Not(new Wrapped(new Both("and", new Both("=", new Named(0), new Number(random.nextInt(4))),
                    new Both("=", new Named(1 + random.nextInt(3)), new Number(random.nextInt(3))))));
            default -> rule(random);
        };
        return model;
    }

    private static Expression rule(Random random) {
        Expression rule;
        do {
            rule = either(random, 2);
        } while (rule.text().split("[0-9]+|here|stroke|place|dogs|[(]", -1).length - 1 > 40
                || rule.text().contains("not not not"));
        return rule;
    }

    private static Expression either(Random random, int depth) {
        Expression all = both(random, depth);
        for (int n = random.nextInt(2); n > 0; n--) {
            all = new Both("or", all, both(random, depth));
        }
        return all;
    }

    private static Expression both(Random random, int depth) {
        Expression all = one(random, depth);
        for (int n = random.nextInt(2); n > 0; n--) {
            all = new Both("and", all, one(random, depth));
        }
        return all;
    }

    private static Expression one(Random random, int depth) {
        if (random.nextInt(5) == 0) {
            return new Not(one(random, depth));
        }
        Expression left = sum(random, depth);
        return random.nextInt(3) == 0 ? left
                : new Both(List.of("<", ">", "=").get(random.nextInt(3)), left, sum(random, depth));
    }

    private static Expression sum(Random random, int depth) {
        Expression all = term(random, depth);
        for (int n = random.nextInt(3) / 2; n > 0; n--) {
            all = new Both(random.nextBoolean() ? "+" : "-", all, term(random, depth));
        }
        return all;
    }

    private static Expression term(Random random, int depth) {
        Expression all = unit(random, depth);
        for (int n = random.nextInt(4) / 2; n > 0; n--) {
            all = new Both(random.nextBoolean() ? "*" : "/", all, unit(random, depth));
        }
        return all;
    }

    private static Expression unit(Random random, int depth) {
        int kind = random.nextInt(depth > 0 ? 9 : 8);
        if (kind == 8) {
            return new Wrapped(either(random, depth - 1));
        }
        return kind < 5 ? new Named(kind < 3 ? 0 : kind - 2) : kind < 7 ? new Number(random.nextInt(5))
                : new Named(3);
    }

    private static void checkRules(String name, Model model, EvenTown x) {
        long[][] minutes = model.minutes();
        for (int place = 0; place < model.places; place++) {
            for (int other = 0; other < model.places; other++) {
                long least = minutes[place][other];
                Check.due(name + "minutes", x.minutes(place, other), least > 10000 ? NONE : least);
            }
            for (int many = 0; many < 6; many++) {
                for (int stroke = 1; stroke <= 8; stroke++) {
                    Check.due(name + "right", x.right(place, many, stroke), model.right(place, many, stroke) ? 1 : 0);
                }
            }
        }
    }

    private static void checkBest(String name, Model model, EvenTown x) {
        for (int what = 0; what < 3; what++) {
            int[] best = model.best(what);
            Check.due(name + "best " + what, x.best(what), best[0]);
            for (int stroke = 1; stroke <= model.strokes; stroke++) {
                for (int person = 0; person < model.persons; person++) {
                    int index = 1 + (stroke - 1) * model.persons + person;
                    int at = index < best.length ? best[index] : NONE;
                    Check.due(name + "bestAt " + what, x.bestAt(what, stroke, person), at);
                }
            }
        }
    }

    private static void checkOffers(String name, Model model, EvenTown x, Random random) {
        int what = random.nextInt(3);
        int[] most = {GAP, GAP};
        for (int stroke = 1; stroke <= model.strokes; stroke++) {
            Model free = model.with();
            free.freeStroke = stroke;
            most = better(most, free.best(what)[0], stroke);
        }
        Check.due(name + "breaks", x.breaks(what, -1), most[0]);
        Check.due(name + "breaks at", x.breaks(what, 0), most[1]);
        what = random.nextInt(3);
        Model free = model.with();
        free.freePlace = random.nextInt(model.places);
        Check.due(name + "spare", x.spare(free.freePlace, what), free.best(what)[0]);
        checkOften(name, model, x, random);
        what = random.nextInt(3);
        int minutes = 1 + random.nextInt(40);
        most = new int[] {GAP, GAP};
        for (int a = 0; a < model.places; a++) {
            for (int b = a + 1; b < model.places; b++) {
                Model more = model.with();
                more.ways = new long[model.places][];
                for (int i = 0; i < model.places; i++) {
                    more.ways[i] = model.ways[i].clone();
                }
                long way = model.ways[a][b] == 0 ? minutes : Math.min(minutes, model.ways[a][b]);
                more.ways[a][b] = way;
                more.ways[b][a] = way;
                most = better(most, more.best(what)[0], 100 * a + b);
            }
        }
        Check.due(name + "built", x.built(minutes, what, -1), most[0]);
        Check.due(name + "built at", x.built(minutes, what, 0), most[1]);
    }

    private static int[] better(int[] most, int value, int at) {
        return value > most[0] ? new int[] {value, at} : most;
    }

    private static void checkOften(String name, Model model, EvenTown x, Random random) {
        int n = 2 + random.nextInt(3);
        int what = random.nextInt(3);
        Model often = model.with();
        often.hour = model.hour / n;
        often.strokes = model.strokes * n;
        often.errands = new int[model.errands.length][];
        for (int i = 0; i < model.errands.length; i++) {
            often.errands[i] = model.errands[i].clone();
            often.errands[i][2] *= n;
        }
        if (often.hour == 0 || often.strokes > 8) {
            Check.due(name + "often never", x.often(n, what), GAP);
        } else if (Math.pow(model.places, model.persons * often.strokes) <= 100000) {
            Check.due(name + "often", x.often(n, what), often.best(what)[0]);
        }
    }

    /** Some of the lawful plans, and plans at random, told in a text. */
    private static void checkPlans(String name, Model model, EvenTown x, Random random) {
        List<int[][]> lawful = model.plans();
        for (int n = 0; n < 6; n++) {
            int[][] plan;
            if (n % 2 == 0 && !lawful.isEmpty()) {
                plan = lawful.get(random.nextInt(lawful.size()));
            } else {
                plan = new int[model.strokes][];
                for (int stroke = 0; stroke < model.strokes; stroke++) {
                    plan[stroke] = random.ints(model.persons, 0, model.places).toArray();
                }
            }
            Check.due(name + "lines", Check.plan(x, planText(model, plan, random)), model.persons);
            int[] judged = judged(model, plan);
            for (int what = 0; what < 3; what++) {
                Check.due(name + "judge " + what, x.judge(what), judged[what]);
                long value = judged[3] == 1 ? model.value(what, plan, model.minutes()) : GAP;
                Check.due(name + "value " + what, x.value(what), value);
            }
        }
    }

    private static String planText(Model model, int[][] plan, Random random) {
        StringBuilder text = new StringBuilder();
        for (int person = 0; person < model.persons; person++) {
            text.append((char) ('p' + person));
            int last = model.strokes;
            while (last > 1 && plan[last - 1][person] == plan[last - 2][person] && random.nextBoolean()) {
                last--;
            }
            for (int stroke = 0; stroke < last; stroke++) {
                text.append(' ').append((char) ('a' + plan[stroke][person]));
            }
            text.append(';');
        }
        return text.toString();
    }

    /** Kind, stroke, number; and 1 if the plan is lawful. */
    private static int[] judged(Model model, int[][] plan) {
        long[][] minutes = model.minutes();
        int[] first = null;
        boolean lawful = true;
        for (int stroke = 1; stroke <= model.strokes; stroke++) {
            List<int[]> here = new ArrayList<>();
            int[] before = stroke == 1 ? model.home : plan[stroke - 2];
            int[] now = plan[stroke - 1];
            for (int person = 0; person < model.persons; person++) {
                if (minutes[before[person]][now[person]] > model.hour) {
                    here.add(new int[] {1, stroke, person, 0});
                }
            }
            for (int place = 0; place < model.places; place++) {
                if (!model.right(place, model.crowd(now, place), stroke)) {
                    here.add(new int[] {2, stroke, place, 0});
                }
            }
            lawful &= here.isEmpty();
            for (int i = 0; i < model.errands.length; i++) {
                int[] errand = model.errands[i];
                if (errand[2] == stroke && now[errand[0]] != errand[1]) {
                    here.add(new int[] {3, stroke, i, 0});
                }
            }
            if (first == null && !here.isEmpty()) {
                first = here.get(0);
            }
        }
        int[] judged = first == null ? new int[] {0, NONE, NONE, 0} : first.clone();
        judged[3] = lawful ? 1 : 0;
        return judged;
    }

    private static void checkStates(String name, Model model, EvenTown x, Random random) {
        List<int[][]> lawful = model.plans();
        checkMeetings(name, model, x, lawful);
        List<int[]> told = new ArrayList<>();
        int time = 0;
        for (int n = 0; n < 5; n++) {
            int[] count = {1 + random.nextInt(8), random.nextInt(model.places), random.nextInt(3), time, 9999};
            if (!lawful.isEmpty() && random.nextInt(4) > 0) {
                int[][] plan = lawful.get(random.nextInt(lawful.size()));
                count[0] = 1 + random.nextInt(model.strokes);
                count[2] = model.crowd(plan[count[0] - 1], count[1]);
            }
            Check.due(name + "count", x.count(count[0], count[1], count[2]), told.size());
            told.add(count);
            int by = random.nextInt(3);
            time += by;
            Check.due(name + "later", x.later(by), time);
            int which = random.nextInt(8);
            boolean can = which < told.size() && told.get(which)[4] == 9999;
            Check.due(name + "untell", x.untell(which), can);
            if (can) {
                told.get(which)[4] = time;
            }
        }
        for (int n = 0; n < 4; n++) {
            checkAgreeing(name, model, x, told, random.nextInt(time + 3) - 1, random);
        }
    }

    private static void checkMeetings(String name, Model model, EvenTown x, List<int[][]> lawful) {
        for (int a = 0; a < model.persons; a++) {
            for (int b = 0; b < model.persons; b++) {
                for (int place = 0; place < model.places; place++) {
                    int first = NONE;
                    for (int stroke = model.strokes; stroke >= 1; stroke--) {
                        for (int[][] plan : lawful) {
                            int[] now = plan[stroke - 1];
                            if (a != b && now[a] == place && now[b] == place && model.crowd(now, place) == 2) {
                                first = stroke;
                            }
                        }
                    }
                    Check.due(name + "meet", x.meet(a, b, place), first);
                }
            }
        }
    }

    private static void checkAgreeing(String name, Model model, EvenTown x, List<int[]> told, int k, Random random) {
        Model known = model.with();
        known.counts = new ArrayList<>();
        for (int[] count : told) {
            if (count[3] <= k && count[4] > k) {
                known.counts.add(count);
            }
        }
        List<int[][]> agreeing = known.plans();
        int stroke = 1 + random.nextInt(model.strokes);
        Set<String> states = new HashSet<>();
        for (int[][] plan : agreeing) {
            states.add(java.util.Arrays.toString(plan[stroke - 1]));
        }
        Check.due(name + "states", x.states(stroke, k), states.size());
        for (int person = 0; person < model.persons; person++) {
            for (int place = 0; place < model.places; place++) {
                int there = 0;
                for (int[][] plan : agreeing) {
                    there += plan[stroke - 1][person] == place ? 1 : 0;
                }
                int sure = there == 0 ? 0 : there == agreeing.size() ? 2 : 1;
                Check.due(name + "sure", x.sure(person, place, stroke, k), sure);
            }
        }
    }

    private static void checkEarnest(String name, Model model, EvenTown x, Random random) {
        int[] at = model.home.clone();
        int[] sent = at.clone();
        int odd = 0;
        long[][] minutes = model.minutes();
        for (int stroke = 1; stroke <= 8; stroke++) {
            Check.due(name + "mend", x.mend(), mending(model, at, minutes));
            for (int n = 0; n < 4 && model.persons > 0; n++) {
                int person = random.nextInt(model.persons);
                int place = random.nextInt(model.places);
                boolean gets = minutes[at[person]][place] <= model.hour;
                Check.due(name + "send", x.send(person, place), gets);
                sent[person] = gets ? place : sent[person];
            }
            at = sent.clone();
            int wrong = 0;
            for (int place = 0; place < model.places; place++) {
                wrong += model.right(place, model.crowd(at, place), stroke) ? 0 : 1;
            }
            odd += wrong;
            Check.due(name + "strike", x.strike(), wrong);
            Check.due(name + "odd", x.about(9), odd);
            for (int person = 0; person < model.persons; person++) {
                Check.due(name + "where", x.where(person), at[person]);
            }
        }
    }

    /** The least walk of all persons to any even state: not by pairing places. */
    private static long mending(Model model, int[] at, long[][] minutes) {
        long least = Long.MAX_VALUE / 4;
        for (int[] state : model.states()) {
            boolean even = true;
            for (int place = 0; place < model.places; place++) {
                even &= model.crowd(state, place) % 2 == 0;
            }
            long walk = 0;
            for (int person = 0; person < model.persons; person++) {
                walk += Math.min(minutes[at[person]][state[person]], 1000000);
            }
            least = even ? Math.min(least, walk) : least;
        }
        return least >= 1000000 ? NONE : least;
    }

    private OracleTest() {
    }
}
