import java.util.ArrayList;
import java.util.HashMap;
import java.util.HashSet;
import java.util.List;
import java.util.Map;
import java.util.Random;
import java.util.Set;
import java.util.regex.Matcher;
import java.util.regex.Pattern;

/** Texts from fixed seeds, most of them broken: their faults against a second reader. */
final class TextTest {
    private static final Set<String> OWN_WORDS = Set.of("place", "empty", "way", "minutes", "person", "at", "hire", "dog",
            "errand", "stroke", "worth", "hour", "strokes", "rule", "or", "and", "not", "here", "dogs");
    private static final Pattern TOKEN = Pattern.compile("[ \\n]*(?:([a-z]+)|([0-9]+)([a-z]?)|([;()<>=+*/-])|(.))",
            Pattern.DOTALL);

    private static final class Fault extends RuntimeException {
        private static final long serialVersionUID = 1L;
        final int kind;
        final int at;

        Fault(int kind, int at) {
            this.kind = kind;
            this.at = at;
        }
    }

    /** The second reader: all tokens first, then line by line. */
    private static final class Reader {
        private final List<String> tokens = new ArrayList<>();
        private final List<Integer> starts = new ArrayList<>();
        private final Map<String, Integer> told = new HashMap<>();
        private final Set<String> places = new HashSet<>();
        private final Set<String> persons = new HashSet<>();
        private final Set<String> dogs = new HashSet<>();
        private final Set<String> ways = new HashSet<>();
        private int next;
        private int units;
        int strokes = 3;

        Reader(String text) {
            Matcher matcher = TOKEN.matcher(text);
            int from = 0;
            while (matcher.find(from)) {
                String word = matcher.group(1);
                String number = matcher.group(2);
                boolean bad = matcher.group(5) != null || word != null && word.length() > 8
                        || number != null && (number.length() > 4 || !matcher.group(3).isEmpty());
                String token = word != null ? word : number != null ? number : matcher.group(4);
                int start = matcher.start(word != null ? 1 : number != null ? 2 : matcher.group(4) != null ? 4 : 5);
                tokens.add(bad ? "BAD" : token);
                starts.add(start);
                from = matcher.end();
                if (bad) {
                    break;
                }
            }
            tokens.add("END");
            starts.add(text.length());
        }

        private String token() {
            return tokens.get(next);
        }

        private Fault fault(int kind) {
            return new Fault(token().equals("BAD") ? 1 : kind, starts.get(next));
        }

        private void skip(String wanted) {
            if (!token().equals(wanted)) {
                throw fault(2);
            }
            next++;
        }

        private boolean isName() {
            return token().matches("[a-z]+") && !OWN_WORDS.contains(token());
        }

        private String name() {
            if (!isName()) {
                throw fault(2);
            }
            return token();
        }

        private String known(Set<String> names) {
            String name = name();
            if (!names.contains(name)) {
                throw fault(5);
            }
            next++;
            return name;
        }

        private int number(int least, int most) {
            if (!token().matches("[0-9]+")) {
                throw fault(2);
            }
            int number = Integer.parseInt(token());
            if (number < least || number > most) {
                throw fault(4);
            }
            next++;
            return number;
        }

        private void added(Set<String> to, Set<String> beside) {
            String name = name();
            if (to.contains(name) || beside.contains(name)) {
                throw fault(3);
            }
            to.add(name);
            next++;
        }

        void town() {
            Map<String, Integer> most = Map.of("place", 6, "way", 15, "person", 5, "dog", 3, "errand", 8, "hour", 1,
                    "strokes", 1, "rule", 1);
            while (!token().equals("END")) {
                String sort = token();
                if (!most.containsKey(sort) || told.merge(sort, 1, Integer::sum) > most.get(sort)) {
                    throw fault(2);
                }
                next++;
                line(sort);
                skip(";");
            }
        }

        private void line(String sort) {
            switch (sort) {
                case "place" -> {
                    added(places, Set.of());
                    next += token().equals("empty") ? 1 : 0;
                }
                case "way" -> {
                    String a = known(places);
                    String b = name();
                    if (a.equals(b) || ways.contains(a + " " + b)) {
                        throw fault(3);
                    }
                    known(places);
                    ways.add(a + " " + b);
                    ways.add(b + " " + a);
                    skip("minutes");
                    number(1, 999);
                }
                case "person" -> {
                    added(persons, dogs);
                    skip("at");
                    known(places);
                    skip("hire");
                    number(0, 99);
                }
                case "dog" -> {
                    added(dogs, persons);
                    skip("at");
                    known(places);
                }
                case "errand" -> {
                    known(persons);
                    skip("at");
                    known(places);
                    skip("stroke");
                    number(1, 8);
                    skip("worth");
                    number(0, 999);
                }
                case "hour" -> number(1, 999);
                case "strokes" -> strokes = number(1, 8);
                default -> either(0);
            }
        }

        private void either(int within) {
            do {
                do {
                    one(within);
                } while (took("and"));
            } while (took("or"));
        }

        private boolean took(String sign) {
            boolean there = token().equals(sign);
            next += there ? 1 : 0;
            return there;
        }

        private void one(int within) {
            int nots = within;
            while (token().equals("not")) {
                if (nots == 7) {
                    throw fault(2);
                }
                nots++;
                next++;
            }
            sum(nots);
            if (took("<") || took(">") || took("=")) {
                sum(nots);
            }
        }

        private void sum(int within) {
            do {
                unit(within);
            } while (took("+") || took("-") || took("*") || took("/"));
        }

        private void unit(int within) {
            if (!token().matches("[0-9]+|here|stroke|place|dogs|[(]") || units == 40
                    || token().equals("(") && within == 7) {
                throw fault(2);
            }
            units++;
            if (took("(")) {
                either(within + 1);
                skip(")");
            } else {
                next++;
            }
        }

        int plan() {
            int lines = 0;
            Set<String> before = new HashSet<>();
            for (; !token().equals("END"); lines++) {
                String person = name();
                if (before.contains(person)) {
                    throw fault(3);
                }
                known(persons);
                before.add(person);
                known(places);
                for (int n = 1; !token().equals(";"); n++) {
                    if (n == strokes) {
                        throw fault(2);
                    }
                    known(places);
                }
                skip(";");
            }
            return lines;
        }
    }

    private static final String[] JUNK = {"place", "empty", "way", "minutes", "person", "at", "hire", "dog", "errand",
        "stroke", "worth", "hour", "strokes", "rule", "or", "and", "not", "here", "dogs", "a", "b", "p", "q", "g", "zz",
        "0", "1", "7", "9", "60", "99", "100", "999", "1000", "9999", "12345", "123a", "abcdefgh", "abcdefghi", ";", "(",
        ")", "<", ">", "=", "+", "-", "*", "/", "A", "!", ".", "\t", "" + (char) 200, "" + (char) 0, "_"};

    public static void main(String[] args) {
        int[] kinds = new int[6];
        for (int seed = 1; seed <= 30000; seed++) {
            Random random = new Random(seed);
            List<String> tokens = seed % 3 == 0 ? planTokens(random) : townTokens(random);
            for (int n = random.nextInt(3); n > 0; n--) {
                spoil(tokens, random);
            }
            String text = joined(tokens, random);
            int limit = seed % 3 == 0 ? 400 : 1580;
            text = text.length() > limit ? text.substring(0, limit) : text;
            kinds[seed % 3 == 0 ? checkPlan(text, random) : checkTown(text)]++;
        }
        for (int kind = 0; kind < 6; kind++) {
            Check.due("enough texts of fault " + kind, kinds[kind] > 300, true);
        }
        Check.close();
    }

    private static int checkTown(String text) {
        Used x = new Used();
        Reader reader = new Reader(text);
        int kind = 0;
        int at = EvenTown.NONE;
        try {
            reader.town();
        } catch (Fault fault) {
            kind = fault.kind;
            at = fault.at;
        }
        Check.due("town " + text, x.town(text), kind == 0 ? reader.persons.size() : EvenTown.NONE);
        Check.due("fault of " + text, x.fault(0), kind);
        Check.due("fault's place of " + text, x.fault(1), at);
        Check.due("units of " + text, x.about(10), kind == 0 ? reader.units : 0);
        Check.due("ways of " + text, x.about(4), kind == 0 ? reader.ways.size() / 2 : 0);
        return kind;
    }

    private static int checkPlan(String text, Random random) {
        Used x = new Used();
        String town = "place a;place b;place p;person p at a hire 1;person q at b hire 1;person r at a hire 1;"
                + "dog g at a;strokes " + (1 + random.nextInt(8)) + ";";
        x.town(town);
        Reader reader = new Reader(text);
        Reader townReader = new Reader(town);
        townReader.town();
        reader.places.addAll(townReader.places);
        reader.persons.addAll(townReader.persons);
        reader.strokes = townReader.strokes;
        int kind = 0;
        int at = EvenTown.NONE;
        int lines = EvenTown.NONE;
        try {
            lines = reader.plan();
        } catch (Fault fault) {
            kind = fault.kind;
            at = fault.at;
        }
        Check.due("plan " + text, x.plan(text), lines);
        Check.due("fault of " + text, x.fault(0), kind);
        Check.due("fault's place of " + text, x.fault(1), at);
        return kind;
    }

    private static void spoil(List<String> tokens, Random random) {
        int at = random.nextInt(tokens.size() + 1);
        int how = random.nextInt(4);
        if (how == 0 || at == tokens.size()) {
            tokens.add(at, JUNK[random.nextInt(JUNK.length)]);
        } else if (how == 1) {
            tokens.remove(at);
        } else if (how == 2) {
            tokens.set(at, JUNK[random.nextInt(JUNK.length)]);
        } else {
            tokens.subList(at, tokens.size()).clear();
        }
    }

    private static String joined(List<String> tokens, Random random) {
        StringBuilder text = new StringBuilder();
        boolean close = random.nextBoolean();
        for (String token : tokens) {
            boolean needs = text.length() > 0 && Character.isLetterOrDigit(text.charAt(text.length() - 1))
                    && Character.isLetterOrDigit(token.charAt(0));
            if (needs || !close || random.nextInt(9) == 0) {
                text.append(random.nextInt(5) == 0 ? "\n " : " ");
            }
            text.append(token);
        }
        return text.toString();
    }

    private static void add(List<String> tokens, String words) {
        tokens.addAll(List.of(words.split(" ")));
    }

    private static String from(Random random, String... names) {
        return names[random.nextInt(names.length)];
    }

    private static List<String> planTokens(Random random) {
        List<String> tokens = new ArrayList<>();
        for (int n = random.nextInt(4); n > 0; n--) {
            add(tokens, from(random, "p", "q", "r", "p", "q", "r", "g"));
            for (int stroke = 1 + random.nextInt(3); stroke > 0; stroke--) {
                add(tokens, from(random, "a", "b", "p", "a", "b", "p", "q"));
            }
            tokens.add(";");
        }
        return tokens;
    }

    private static List<String> townTokens(Random random) {
        List<String> tokens = new ArrayList<>();
        int places = random.nextInt(8);
        for (int n = 0; n < places; n++) {
            add(tokens, "place " + (char) ('a' + (random.nextInt(15) == 0 ? 0 : n))
                    + (random.nextInt(3) == 0 ? " empty ;" : " ;"));
        }
        for (int n = random.nextInt(14); n > 0; n--) {
            String place = "" + (char) ('a' + random.nextInt(Math.max(1, places)));
            String other = "" + (char) ('a' + random.nextInt(Math.max(1, places)));
            switch (random.nextInt(8)) {
                case 0, 1 -> add(tokens, "way " + place + " " + other + " minutes " + random.nextInt(1010) + " ;");
                case 2, 3 -> add(tokens, "person " + from(random, "p", "q", "r", "s", "t", "u", "v") + " at " + place
                        + " hire " + random.nextInt(104) + " ;");
                case 4 -> add(tokens, "dog " + from(random, "g", "h", "i", "j", "p") + " at " + place + " ;");
                case 5 -> add(tokens, "errand " + from(random, "p", "q", "p", "q", "g") + " at " + place + " stroke "
                        + random.nextInt(10) + " worth " + random.nextInt(1010) + " ;");
                case 6 -> add(tokens, from(random, "hour ", "strokes ") + random.nextInt(10) + " ;");
                default -> {
                    tokens.add("rule");
                    either(tokens, random, random.nextInt(8) == 0 ? 9 : 3);
                    tokens.add(";");
                }
            }
        }
        return tokens;
    }

    private static void either(List<String> tokens, Random random, int depth) {
        one(tokens, random, depth);
        for (int n = random.nextInt(3); n > 0; n--) {
            tokens.add(from(random, "or", "and"));
            one(tokens, random, depth);
        }
    }

    private static void one(List<String> tokens, Random random, int depth) {
        while (depth > 0 && random.nextInt(3) == 0) {
            tokens.add("not");
            depth--;
        }
        unit(tokens, random, depth);
        if (random.nextBoolean()) {
            tokens.add(from(random, "<", ">", "="));
            unit(tokens, random, depth);
        }
    }

    private static void unit(List<String> tokens, Random random, int depth) {
        if (depth > 0 && random.nextInt(3) == 0) {
            tokens.add("(");
            either(tokens, random, depth - 1);
            tokens.add(")");
        } else {
            tokens.add(from(random, "here", "stroke", "place", "dogs", "2", "0", "17"));
        }
        if (random.nextInt(4) == 0) {
            tokens.add(from(random, "+", "-", "*", "/"));
            unit(tokens, random, depth);
        }
    }

    private TextTest() {
    }
}
