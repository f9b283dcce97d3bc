/** Promise 8: right, with what a rule is worth. */
final class Promise08RightTest {
    private static final int NONE = EvenTown.NONE;
    /** 4096 * 8 * 4096 * 16: 2147483648, which wraps to the least int. */
    private static final String LEAST = "4096 * 8 * 4096 * 16";

    public static void main(String[] args) {
        Check.promise(8, "right");
        isNoneOfNoPlace();
        isNoneOfTooMany();
        isNoneOfNoStroke();
        isEvenWithoutARule();
        keepsEmptyPlacesEmpty();
        tellsHereStrokePlaceAndDogs();
        looksBehindTheLastStroke();
        looksBeyondThePersons();
        wraps();
        cuts();
        dividesByZero();
        isOneOrZero();
        takesWhatIsNotZero();
        bindsAsToldInTheText();
        goesFromTheLeft();
        isThatOfTheTownAlone();
        Check.close();
    }

    /** Of a rule at place 1 with two dogs, with five there at stroke 3. */
    private static void ruleIs(String rule, int want) {
        Used x = Used.of("place z;place a;dog d at a;dog e at a;rule " + rule + ";");
        Check.due("rule " + rule, x.right(1, 5, 3), want);
    }

    /** So that a rule that is no relation is told from one that is 1. */
    private static void valueIs(String rule, int want) {
        String number = want < 0 ? "0 - " + -want : "" + want;
        ruleIs("(" + rule + ") = " + number, 1);
        ruleIs(rule, want != 0 ? 1 : 0);
    }

    private static void isNoneOfNoPlace() {
        Check.sentence("NONE if one can't be: a PLACE");
        Used x = Used.of("place a;place b;rule 1;");
        Check.due("0", x.right(0, 0, 1), 1);
        Check.due("1", x.right(1, 0, 1), 1);
        Check.due("2", x.right(2, 0, 1), NONE);
        Check.due("-1", x.right(-1, 0, 1), NONE);
        x = Used.of(Texts.SIX_PLACES + "rule 1;");
        Check.due("5", x.right(5, 0, 1), 1);
        Check.due("6", x.right(6, 0, 1), NONE);
        for (int place : Texts.NO_INDEX) {
            Check.due("place " + place, x.right(place, 0, 1), NONE);
        }
    }

    private static void isNoneOfTooMany() {
        Check.sentence("so many there (0 .. 5); NONE if one can't be");
        Used x = Used.of("place a;place b;rule 1;");
        Check.due("-1", x.right(0, -1, 1), NONE);
        Check.due("0", x.right(0, 0, 1), 1);
        Check.due("5", x.right(0, 5, 1), 1);
        Check.due("6", x.right(0, 6, 1), NONE);
        Check.due("6 at the last place", x.right(1, 6, 1), NONE);
        for (int many : Texts.NO_INDEX) {
            Check.due("many " + many, x.right(0, many, 1), NONE);
        }
    }

    private static void isNoneOfNoStroke() {
        Check.sentence("at a STROKE (1 .. 8); NONE if one can't be");
        Used x = Used.of("place a;rule 1;");
        Check.due("0", x.right(0, 0, 0), NONE);
        Check.due("1", x.right(0, 0, 1), 1);
        Check.due("8", x.right(0, 0, 8), 1);
        Check.due("9", x.right(0, 0, 9), NONE);
        Check.due("-1", x.right(0, 0, -1), NONE);
        Check.due("31", x.right(0, 0, 31), NONE);
        Check.due("33", x.right(0, 0, 33), NONE);
        for (int stroke : Texts.NO_INDEX) {
            Check.due("stroke " + stroke, x.right(0, 0, stroke), NONE);
        }
    }

    private static void isEvenWithoutARule() {
        Check.sentence("(even: here is 0, 2, 4 ..)");
        Used x = Used.of("place a;place b;dog d at b;");
        for (int many = 0; many <= 5; many++) {
            for (int stroke = 1; stroke <= 8; stroke++) {
                Check.due("many " + many, x.right(0, many, stroke), many % 2 == 0 ? 1 : 0);
                Check.due("dogs do not count: many " + many, x.right(1, many, stroke), many % 2 == 0 ? 1 : 0);
            }
        }
    }

    private static void keepsEmptyPlacesEmpty() {
        Check.sentence("and, if it is told empty, nobody is there");
        Used x = Used.of("place a empty;place b;dog d at a;rule 1;");
        Used even = Used.of("place a empty;place b;dog d at a;");
        Used never = Used.of("place a empty;place b;rule here;");
        for (int many = 0; many <= 5; many++) {
            Check.due("empty with " + many, x.right(0, many, 1), many == 0 ? 1 : 0);
            Check.due("not empty with " + many, x.right(1, many, 1), 1);
            Check.due("empty and even with " + many, even.right(0, many, 8), many == 0 ? 1 : 0);
            Check.due("the rule wants one, with " + many, never.right(0, many, 8), 0);
        }
    }

    private static void tellsHereStrokePlaceAndDogs() {
        Check.sentence("here: how many PERSONS are there; stroke, place: their numbers; dogs: how many are told there");
        ruleIs("here = 5 and stroke = 3 and place = 1 and dogs = 2", 1);
        Used x = Used.of("place a;place b;place c;dog d at b;dog e at b;dog f at b;"
                + "rule here * 1000 + stroke * 100 + place * 10 + dogs = 5813;");
        Check.due("the last of all", x.right(1, 5, 8), 1);
        Check.due("another number", x.right(1, 4, 8), 0);
        Check.due("another stroke", x.right(1, 5, 7), 0);
        Check.due("another place", x.right(0, 5, 8), 0);
        x = Used.of(Texts.SIX_PLACES + "rule here + stroke + place + dogs = 1;");
        Check.due("the first of all", x.right(0, 0, 1), 1);
        x = Used.of(Texts.SIX_PLACES + "rule place = 5;");
        Check.due("the last place", x.right(5, 0, 1), 1);
        Check.due("the one ahead", x.right(4, 0, 1), 0);
        x = Used.of("place a;place b;dog d at b;dog e at a;dog f at b;rule dogs = 2;");
        Check.due("one dog", x.right(0, 0, 1), 0);
        Check.due("two dogs", x.right(1, 0, 1), 1);
    }

    private static void looksBehindTheLastStroke() {
        Check.sentence("at a STROKE (1 .. 8): whatever strokes is told");
        Used x = Used.of("place a;strokes 1;rule stroke = 8;");
        Check.due("8 of 1", x.right(0, 0, 8), 1);
        Check.due("7 of 1", x.right(0, 0, 7), 0);
        Check.due("1 of 1", x.right(0, 0, 1), 0);
    }

    private static void looksBeyondThePersons() {
        Check.sentence("so many there (0 .. 5): whatever PERSONS there are");
        Used x = Used.of("place a;rule here = 5;");
        Check.due("5 of none", x.right(0, 5, 1), 1);
        Check.due("4 of none", x.right(0, 4, 1), 0);
    }

    private static void wraps() {
        Check.sentence("ints, wrapping");
        ruleIs(LEAST + " < 0", 1);
        ruleIs(LEAST + " - 1 > 0", 1);
        ruleIs(LEAST + " - 1 + 1 < 0", 1);
        ruleIs(LEAST + " = 0 - " + LEAST, 1);
        ruleIs(LEAST + " + " + LEAST, 0);
        ruleIs(LEAST + " * 2", 0);
        ruleIs(LEAST + " < 1", 1);
        ruleIs("1 > " + LEAST, 1);
        ruleIs(LEAST + " - 1 > 0 - 2", 1);
        ruleIs("4096 * 16 * 4096 * 16", 0);
        ruleIs("9999 * 9999 * 9999 < 0", 1);
        ruleIs("9999 * 9999 * 9999 = 0 - 1027 * 1000 * 1000 - 349 * 1000 - 969", 1);
        ruleIs("9999 * 9999 > 0", 1);
        ruleIs(LEAST + " / (0 - 1) = " + LEAST, 1);
        ruleIs(LEAST, 1);
        ruleIs("not (" + LEAST + ")", 0);
        ruleIs(LEAST + " and 1", 1);
        ruleIs(LEAST + " or 0", 1);
    }

    private static void cuts() {
        Check.sentence("/ cut");
        valueIs("9 / 2", 4);
        valueIs("1 / 2", 0);
        valueIs("(0 - 9) / 2", -4);
        valueIs("9 / (0 - 2)", -4);
        valueIs("(0 - 9) / (0 - 2)", 4);
        valueIs("(0 - 1) / 2", 0);
        valueIs("9999 / 9999", 1);
        valueIs("9998 / 9999", 0);
    }

    private static void dividesByZero() {
        Check.sentence("by 0: 0");
        valueIs("7 / 0", 0);
        valueIs("0 / 0", 0);
        valueIs("(0 - 7) / 0", 0);
        valueIs("7 / 0 + 1", 1);
        valueIs("7 / (here - 5)", 0);
        valueIs("7 / (2 < 1)", 0);
        valueIs("7 / 0 / 0", 0);
        valueIs("7 / (1 / 2)", 0);
        ruleIs(LEAST + " / 0 = 0", 1);
    }

    private static void isOneOrZero() {
        Check.sentence("relations, and, or, not are 1 or 0");
        valueIs("3 < 4", 1);
        valueIs("4 < 4", 0);
        valueIs("5 < 4", 0);
        valueIs("3 > 4", 0);
        valueIs("4 > 4", 0);
        valueIs("5 > 4", 1);
        valueIs("4 = 4", 1);
        valueIs("4 = 5", 0);
        valueIs("0 - 4 < 0 - 3", 1);
        valueIs("2 and 4", 1);
        valueIs("2 and 0", 0);
        valueIs("0 and 2", 0);
        valueIs("0 and 0", 0);
        valueIs("2 or 4", 1);
        valueIs("0 or 4", 1);
        valueIs("4 or 0", 1);
        valueIs("0 or 0", 0);
        valueIs("not 0", 1);
        valueIs("not 1", 0);
        valueIs("not 2", 0);
        valueIs("not not 2", 1);
        valueIs("1 and 2", 1);
        valueIs("1 or 2", 1);
    }

    private static void takesWhatIsNotZero() {
        Check.sentence("of what is not 0; RIGHT, if rule e is not 0");
        ruleIs("0", 0);
        ruleIs("1", 1);
        ruleIs("2", 1);
        ruleIs("9999", 1);
        ruleIs("0 - 1", 1);
        valueIs("not (0 - 1)", 0);
        valueIs("(0 - 1) and (0 - 2)", 1);
        valueIs("(0 - 1) or 0", 1);
        valueIs("1 and (0 - 1)", 1);
        valueIs("(1 - 1) or (2 - 2)", 0);
    }

    private static void bindsAsToldInTheText() {
        Check.sentence("e = both {or both} .. term = unit {(* | /) unit}");
        valueIs("1 + 2 * 3", 7);
        valueIs("(1 + 2) * 3", 9);
        valueIs("7 - 6 / 2", 4);
        valueIs("1 + 1 < 1 + 2", 1);
        valueIs("1 or 0 and 0", 1);
        valueIs("(1 or 0) and 0", 0);
        valueIs("0 and 0 or 1", 1);
        valueIs("0 and (0 or 1)", 0);
        valueIs("not 1 and 0", 0);
        valueIs("not 1 or 1", 1);
        valueIs("not 1 < 0", 1);
        valueIs("not 0 + 1", 0);
        valueIs("1 = 1 and 2", 1);
        valueIs("2 and 1 = 1", 1);
        valueIs("0 = 1 or 2", 1);
        valueIs("1 < 2 and 3 < 2", 0);
    }

    private static void goesFromTheLeft() {
        Check.sentence("{(+ | -) term}, {(* | /) unit}");
        valueIs("9 - 3 - 2", 4);
        valueIs("9 - 3 + 2", 8);
        valueIs("9 / 2 * 2", 8);
        valueIs("2 * 9 / 4", 4);
        valueIs("100 / 10 / 5", 2);
        valueIs("9 - (3 - 2)", 8);
        valueIs("100 / (10 / 5)", 50);
        valueIs("1 - 1 + 1 - 1 + 1", 1);
    }

    private static void isThatOfTheTownAlone() {
        Check.sentence("RIGHT, if rule e is not 0: no rule of before");
        String[] rules = {"not 1", "1", "not not not 0", "1 and not (1 or 1)", "0", "2 - 1", "not (1 < 2) = 0"};
        int[] worth = {0, 1, 1, 0, 0, 1, 1};
        for (int first = 0; first < rules.length; first++) {
            for (int last = 0; last < rules.length; last++) {
                Used x = Used.of("place a;rule " + rules[first] + ";");
                x.town("place a;rule " + rules[first] + ";");
                x.town("place a;rule " + rules[last] + ";");
                Check.due("rule " + rules[last] + " behind " + rules[first], x.right(0, 1, 1), worth[last]);
                x.town("place a;");
                Check.due("no rule behind " + rules[last], x.right(0, 1, 1), 0);
                Check.due("no rule behind " + rules[last], x.right(0, 2, 1), 1);
            }
        }
    }

    private Promise08RightTest() {
    }
}
