import java.util.ArrayList;
import java.util.List;
import java.util.Random;

/** A town in plain fields, and what else is asked of its days. */
final class Model implements Cloneable {
    int places;
    int persons;
    int dogs;
    int strokes = 3;
    int hour = 60;
    boolean[] empty;
    int[] home;
    int[] hire;
    int[] dogAt;
    int[][] errands;
    long[][] ways;
    Expression rule;
    int freeStroke = EvenTown.NONE;
    int freePlace = EvenTown.NONE;
    List<int[]> counts = List.of();

    Model with() {
        try {
            return (Model) clone();
        } catch (CloneNotSupportedException e) {
            throw new IllegalStateException(e);
        }
    }

    /** With all places right at a stroke. */
    Model freed(int stroke) {
        Model free = with();
        free.freeStroke = stroke;
        return free;
    }

    /** With a place right at all strokes. */
    Model spared(int place) {
        Model spare = with();
        spare.freePlace = place;
        return spare;
    }

    /** With n strokes for each one; null if that can't be. */
    Model often(int n) {
        Model often = with();
        often.hour = hour / n;
        often.strokes = strokes * n;
        often.errands = new int[errands.length][];
        for (int i = 0; i < errands.length; i++) {
            often.errands[i] = errands[i].clone();
            often.errands[i][2] *= n;
        }
        return often.hour == 0 || often.strokes > 8 ? null : often;
    }

    /** With one way more. */
    Model built(int a, int b, int minutes) {
        Model more = with();
        more.ways = new long[places][];
        for (int i = 0; i < places; i++) {
            more.ways[i] = ways[i].clone();
        }
        long way = ways[a][b] == 0 ? minutes : Math.min(minutes, ways[a][b]);
        more.ways[a][b] = way;
        more.ways[b][a] = way;
        return more;
    }

    /** Minutes by asking for walks of more and more ways (not by way of each place, as the class does). */
    long[][] minutes() {
        long[][] walk = new long[places][places];
        for (int a = 0; a < places; a++) {
            for (int b = 0; b < places; b++) {
                walk[a][b] = a == b ? 0 : Long.MAX_VALUE / 4;
            }
        }
        for (int n = 0; n < places; n++) {
            for (int a = 0; a < places; a++) {
                for (int b = 0; b < places; b++) {
                    for (int c = 0; c < places; c++) {
                        if (ways[c][b] > 0) {
                            walk[a][b] = Math.min(walk[a][b], walk[a][c] + ways[c][b]);
                        }
                    }
                }
            }
        }
        return walk;
    }

    boolean right(int place, int many, int stroke) {
        if (stroke == freeStroke || place == freePlace) {
            return true;
        }
        int there = 0;
        for (int dog = 0; dog < dogs; dog++) {
            there += dogAt[dog] == place ? 1 : 0;
        }
        boolean holds = rule == null ? many % 2 == 0 : rule.value(many, stroke, place, there) != 0;
        return holds && !(empty[place] && many > 0);
    }

    boolean allRight(int[] state, int stroke) {
        for (int place = 0; place < places; place++) {
            if (!right(place, crowd(state, place), stroke)) {
                return false;
            }
        }
        for (int[] count : counts) {
            if (count[0] == stroke && crowd(state, count[1]) != count[2]) {
                return false;
            }
        }
        return true;
    }

    int crowd(int[] state, int place) {
        int many = 0;
        for (int at : state) {
            many += at == place ? 1 : 0;
        }
        return many;
    }

    /** All lawful plans, the first row first. */
    List<int[][]> plans() {
        List<int[][]> all = new ArrayList<>();
        search(new int[strokes][], 0, minutes(), all);
        return all;
    }

    private void search(int[][] plan, int done, long[][] minutes, List<int[][]> all) {
        if (done == strokes) {
            all.add(plan.clone());
            return;
        }
        int[] before = done == 0 ? home : plan[done - 1];
        for (int[] state : states()) {
            boolean goes = true;
            for (int person = 0; person < persons; person++) {
                goes &= minutes[before[person]][state[person]] <= hour;
            }
            if (goes && allRight(state, done + 1)) {
                plan[done] = state;
                search(plan, done + 1, minutes, all);
            }
        }
    }

    List<int[]> states() {
        List<int[]> all = new ArrayList<>();
        all.add(new int[persons]);
        for (int person = 0; person < persons; person++) {
            List<int[]> more = new ArrayList<>();
            for (int[] state : all) {
                for (int place = 0; place < places; place++) {
                    int[] next = state.clone();
                    next[person] = place;
                    more.add(next);
                }
            }
            all = more;
        }
        return all;
    }

    boolean isDone(int[] errand, int[][] plan) {
        return errand[2] <= strokes && plan[errand[2] - 1][errand[0]] == errand[1];
    }

    /** The value of a lawful plan. */
    long value(int what, int[][] plan, long[][] minutes) {
        long worth = 0;
        boolean allDone = true;
        for (int[] errand : errands) {
            allDone &= isDone(errand, plan);
            worth += isDone(errand, plan) ? errand[3] : 0;
        }
        if (what > 0 && !allDone) {
            return EvenTown.GAP;
        }
        long value = what == 0 ? worth : 0;
        for (int stroke = 1; stroke <= strokes; stroke++) {
            for (int person = 0; person < persons; person++) {
                int from = stroke == 1 ? home[person] : plan[stroke - 2][person];
                int at = plan[stroke - 1][person];
                if (what == 2) {
                    value -= minutes[from][at];
                } else if (at != home[person]) {
                    boolean busy = false;
                    for (int[] errand : errands) {
                        busy |= errand[0] == person && errand[2] == stroke && isDone(errand, plan);
                    }
                    value -= what == 0 ? hire[person] : busy ? 0 : 1;
                }
            }
        }
        return value;
    }

    /** The best plan's value, and its row behind it; GAP alone, if there is none. */
    int[] best(int what) {
        long[][] minutes = minutes();
        long most = EvenTown.GAP;
        int[][] row = null;
        for (int[][] plan : plans()) {
            long value = value(what, plan, minutes);
            if (value > most) {
                most = value;
                row = plan;
            }
        }
        int[] answer = new int[1 + (row == null ? 0 : strokes * persons)];
        answer[0] = (int) most;
        for (int i = 1; i < answer.length; i++) {
            answer[i] = row[(i - 1) / persons][(i - 1) % persons];
        }
        return answer;
    }

    String text() {
        StringBuilder text = new StringBuilder();
        for (int place = 0; place < places; place++) {
            text.append("place ").append((char) ('a' + place)).append(empty[place] ? " empty;" : ";");
        }
        for (int a = 0; a < places; a++) {
            for (int b = 0; b < a; b++) {
                if (ways[a][b] > 0) {
                    text.append("way ").append((char) ('a' + a)).append(' ').append((char) ('a' + b));
                    text.append(" minutes ").append(ways[a][b]).append(";\n");
                }
            }
        }
        for (int person = 0; person < persons; person++) {
            text.append("person ").append((char) ('p' + person)).append(" at ");
            text.append((char) ('a' + home[person])).append(" hire ").append(hire[person]).append(';');
        }
        for (int[] errand : errands) {
            text.append("errand ").append((char) ('p' + errand[0])).append(" at ").append((char) ('a' + errand[1]));
            text.append(" stroke ").append(errand[2]).append(" worth ").append(errand[3]).append(';');
        }
        if (rule != null) {
            text.append("rule ").append(rule.text()).append(';');
        }
        text.append("hour ").append(hour).append(";strokes ").append(strokes).append(';');
        for (int dog = 0; dog < dogs; dog++) {
            text.append("dog g").append((char) ('a' + dog)).append(" at ").append((char) ('a' + dogAt[dog])).append(';');
        }
        return text.toString();
    }

    static Model town(Random random) {
        Model model = new Model();
        model.persons = random.nextInt(5);
        model.places = model.persons > 3 ? 1 + random.nextInt(2) : 1 + random.nextInt(4);
        model.dogs = random.nextInt(4);
        long states = Math.round(Math.pow(model.places, model.persons));
        do {
            model.strokes = 1 + random.nextInt(model.persons < 2 ? 8 : 4);
        } while (Math.pow(states, model.strokes) > 30000);
        model.hour = 1 + random.nextInt(60);
        model.empty = new boolean[model.places];
        model.ways = new long[model.places][model.places];
        for (int a = 0; a < model.places; a++) {
            model.empty[a] = random.nextInt(9) == 0;
            for (int b = 0; b < a; b++) {
                long way = random.nextInt(3) > 0 ? 1 + random.nextInt(60) : 0;
                model.ways[a][b] = way;
                model.ways[b][a] = way;
            }
        }
        model.home = random.ints(model.persons, 0, model.places).toArray();
        model.hire = random.ints(model.persons, 0, 5).toArray();
        model.dogAt = random.ints(model.dogs, 0, model.places).toArray();
        int errands = model.persons == 0 ? 0 : random.nextInt(4);
        model.errands = new int[errands][];
        for (int i = 0; i < errands; i++) {
            model.errands[i] = new int[] {random.nextInt(model.persons), random.nextInt(model.places),
                1 + random.nextInt(random.nextInt(6) == 0 ? 8 : model.strokes), random.nextInt(20)};
        }
        model.rule = switch (random.nextInt(7)) {
            case 0 -> null;
            case 1 -> new Expression.Both("<", new Expression.Named(0), new Expression.Number(1 + random.nextInt(4)));
            case 2, 3 -> new Expression.Not(new Expression.Wrapped(new Expression.Both("and", new Expression.Both("=", new Expression.Named(0), new Expression.Number(random.nextInt(4))),
                    new Expression.Both("=", new Expression.Named(1 + random.nextInt(3)), new Expression.Number(random.nextInt(3))))));
            default -> Expression.rule(random);
        };
        return model;
    }
}
