/** Promise 25: states. */
final class Promise25StatesTest {
    private static final int NONE = EvenTown.NONE;

    public static void main(String[] args) {
        Check.promise(25, "states");
        isNoneOfNoStroke();
        isOneWithoutPersons();
        isZeroWithoutALawfulPlan();
        isZeroWhenNoneAgrees();
        areOfPlansThatGoOnToTheEnd();
        takesAnyK();
        countsFromTheTimeOn();
        countsUpToTheTimeItIsUntold();
        takesNoHeedOfCountsBehindTheLast();
        takesHeedAtOtherStrokes();
        isAllThereCanBe();
        takesNoHeedOfErrandsAndEarnest();
        Check.close();
    }

    private static void isNoneOfNoStroke() {
        Check.sentence("a STROKE (1 .. strokes); NONE for another one");
        Used x = Used.of(Texts.FOUR);
        Check.due("1", x.states(1, 0), 10);
        Check.due("2", x.states(2, 0), 21);
        Check.due("0", x.states(0, 0), NONE);
        Check.due("3", x.states(3, 0), NONE);
        Check.due("8", x.states(8, 0), NONE);
        Check.due("9", x.states(9, 0), NONE);
        Check.due("-1", x.states(-1, 0), NONE);
        for (int stroke : Texts.NO_INDEX) {
            Check.due("stroke " + stroke, x.states(stroke, 0), NONE);
        }
        for (int strokes = 1; strokes <= 8; strokes++) {
            x = Used.of("place a;strokes " + strokes + ";");
            Check.due("the last", x.states(strokes, 0), 1);
            Check.due("behind it", x.states(strokes + 1, 0), NONE);
        }
    }

    private static void isOneWithoutPersons() {
        Check.sentence("how many unlike ones: without PERSONS there is one");
        Check.due("a new object", new Used().states(1, 0), 1);
        Check.due("six places", Used.of(Texts.SIX_PLACES).states(3, 0), 1);
        Check.due("one place", Used.of("place a;" + Texts.persons(4, 0)).states(3, 0), 1);
    }

    private static void isZeroWithoutALawfulPlan() {
        Check.sentence("PLANS that AGREE: LAWFUL ones");
        Check.due("odd", Used.of("place a;person p at a hire 0;").states(1, 0), 0);
        Check.due("not right", Used.of("place a;rule 0;").states(1, 0), 0);
        Check.due("not right at the last", Used.of("place a;rule stroke < 3;").states(1, 0), 0);
        Check.due("not right at the first", Used.of("place a;rule stroke > 1;").states(3, 0), 0);
    }

    private static void isZeroWhenNoneAgrees() {
        Check.sentence("how many PLANS that AGREE have there: none");
        Used x = Used.of(Texts.FOUR);
        x.count(2, 0, 1);
        Check.due("at 1", x.states(1, 0), 0);
        Check.due("at 2", x.states(2, 0), 0);
        x = Used.of(Texts.FOUR);
        x.count(1, 0, 2);
        x.count(1, 0, 4);
        Check.due("against each other", x.states(1, 0), 0);
        x = Used.of(Texts.FOUR);
        x.count(1, 0, 5);
        Check.due("more than there are", x.states(2, 0), 0);
    }

    private static void areOfPlansThatGoOnToTheEnd() {
        Check.sentence("how many unlike ones PLANS that AGREE have there");
        String town = "place a;place b;place c;way a b minutes 9;way a c minutes 9;person p at a hire 0;"
                + "person q at a hire 0;strokes 2;rule stroke = 1 or place = 2 and here = 2 or place < 2 and here = 0;hour ";
        Check.due("a and c go on", Used.of(town + "9;").states(1, 0), 4);
        Check.due("all go on", Used.of(town + "18;").states(1, 0), 9);
        Check.due("there", Used.of(town + "18;").states(2, 0), 1);
    }

    private static void takesAnyK() {
        Check.sentence("As known at k");
        Used x = Used.of(Texts.FOUR);
        x.count(1, 2, 2);
        x.later(1000);
        x.count(2, 0, 1);
        Check.due("the most", x.states(1, Integer.MAX_VALUE), 0);
        Check.due("far later", x.states(1, 200000), 0);
        Check.due("now", x.states(1, 1000), 0);
        Check.due("ahead of it", x.states(1, 999), 2);
        Check.due("at 0", x.states(1, 0), 2);
        Check.due("ahead of 0", x.states(1, -1), 10);
        Check.due("the least", x.states(1, Integer.MIN_VALUE), 10);
        Check.due("no stroke, any k", x.states(0, Integer.MIN_VALUE), NONE);
    }

    private static void countsFromTheTimeOn() {
        Check.sentence("those count that were TOLD at k or before");
        Used x = Used.of(Texts.FOUR);
        x.later(5);
        x.count(1, 2, 2);
        Check.due("ahead", x.states(1, 4), 10);
        Check.due("at it", x.states(1, 5), 2);
        Check.due("behind", x.states(1, 6), 2);
        Check.due("ahead again", x.states(1, 4), 10);
        x.later(1);
        x.count(1, 0, 2);
        Check.due("the first alone", x.states(1, 5), 2);
        Check.due("both", x.states(1, 6), 1);
    }

    private static void countsUpToTheTimeItIsUntold() {
        Check.sentence("not UNTOLD at k or before");
        Used x = Used.of(Texts.FOUR);
        x.count(1, 2, 2);
        Check.due("told", x.states(1, 0), 2);
        x.later(7);
        x.untell(0);
        Check.due("ahead of it", x.states(1, 6), 2);
        Check.due("at it", x.states(1, 7), 10);
        Check.due("behind", x.states(1, 8), 10);
        Check.due("the most", x.states(1, Integer.MAX_VALUE), 10);
    }

    private static void takesNoHeedOfCountsBehindTheLast() {
        Check.sentence("all COUNTS that count (of STROKES up to strokes) are so");
        Used x = Used.of(Texts.FOUR);
        x.count(3, 0, 1);
        x.count(8, 2, 5);
        Check.due("behind the last", x.states(1, 0), 10);
        x.count(2, 2, 2);
        Check.due("at the last", x.states(2, 0), 12);
    }

    private static void takesHeedAtOtherStrokes() {
        Check.sentence("A PLAN AGREES: at all its STROKES");
        Used x = Used.of("place a;place b;place c;way a b minutes 60;way b c minutes 60;rule 1;strokes 3;"
                + "person p at a hire 0;");
        Check.due("free", x.states(2, 0), 3);
        x.count(3, 2, 1);
        Check.due("at c at last: at 2", x.states(2, 0), 2);
        Check.due("at c at last: at 1", x.states(1, 0), 2);
        x.count(1, 0, 1);
        Check.due("at a at first: at 2", x.states(2, 0), 1);
        x.count(2, 1, 0);
        Check.due("by b alone", x.states(1, 0), 0);
        x = Used.of("place a;place b;place c;way a b minutes 60;way b c minutes 60;rule 1;strokes 3;"
                + "person p at b hire 0;");
        x.count(3, 2, 1);
        x.count(2, 1, 0);
        Check.due("not from a by b to c", x.states(1, 0), 2);
        Check.due("at c at 2", x.states(2, 0), 1);
    }

    private static void isAllThereCanBe() {
        Check.sentence("how many unlike ones: 6 PLACES of 5 PERSONS");
        Used x = Used.of(Texts.SIX_PLACES + Texts.allWays(60) + Texts.persons(5, 0) + "rule 1;strokes 8;");
        Check.due("all", x.states(1, 0), 7776);
        Check.due("all", x.states(8, 0), 7776);
        x.count(8, 5, 5);
        Check.due("all at f", x.states(8, 0), 1);
        Check.due("ahead", x.states(7, 0), 7776);
        x.count(7, 5, 0);
        Check.due("none at f", x.states(7, 0), 3125);
        x.count(7, 0, 4);
        Check.due("four at a, one elsewhere", x.states(7, 0), 20);
    }

    private static void takesNoHeedOfErrandsAndEarnest() {
        Check.sentence("PLANS that AGREE: LAWFUL, whatever is DONE, TOLD and in earnest");
        Used x = Used.of(Texts.FOUR + "errand q at a stroke 8 worth 1;");
        x.plan("p b c;q b c;");
        x.send(0, 1);
        x.strike();
        Check.due("states", x.states(1, 0), 10);
        x.meet(0, 1, 0);
        x.best(1);
        Check.due("states", x.states(2, 0), 21);
    }

    private Promise25StatesTest() {
    }
}
