/** Promise 26: sure. */
final class Promise26SureTest {
    private static final int NONE = EvenTown.NONE;

    public static void main(String[] args) {
        Check.promise(26, "sure");
        isNoneOfNoPerson();
        isNoneOfNoPlace();
        isNoneOfNoStroke();
        isTwoInAll();
        isOneInSome();
        isZeroInNone();
        isZeroWhenNoneAgrees();
        takesAnyK();
        changesWithWhatIsKnown();
        Check.close();
    }

    private static void isNoneOfNoPerson() {
        Check.sentence("NONE if one can't be: a PERSON");
        Used x = Used.of(Texts.FOUR);
        Check.due("4", x.sure(4, 0, 1, 0), NONE);
        Check.due("-1", x.sure(-1, 0, 1, 0), NONE);
        for (int person : Texts.NO_INDEX) {
            Check.due("person " + person, x.sure(person, 0, 1, 0), NONE);
        }
        Check.due("3", x.sure(3, 0, 1, 0), 1);
        x = Used.of("place a;rule 1;" + Texts.persons(5, 0));
        Check.due("the fifth", x.sure(4, 0, 1, 0), 2);
        Check.due("the sixth", x.sure(5, 0, 1, 0), NONE);
        Check.due("of none", new Used().sure(0, 0, 1, 0), NONE);
    }

    private static void isNoneOfNoPlace() {
        Check.sentence("NONE if one can't be: a PLACE");
        Used x = Used.of(Texts.FOUR);
        Check.due("3", x.sure(0, 3, 1, 0), NONE);
        Check.due("-1", x.sure(0, -1, 1, 0), NONE);
        for (int place : Texts.NO_INDEX) {
            Check.due("place " + place, x.sure(0, place, 1, 0), NONE);
        }
        Check.due("2", x.sure(2, 2, 1, 0), 1);
        x = Used.of(Texts.SIX_PLACES + "rule 1;person p at f hire 0;");
        Check.due("the sixth", x.sure(0, 5, 1, 0), 2);
        Check.due("the seventh", x.sure(0, 6, 1, 0), NONE);
    }

    private static void isNoneOfNoStroke() {
        Check.sentence("NONE if one can't be (STROKE 1 .. strokes)");
        Used x = Used.of(Texts.FOUR);
        Check.due("0", x.sure(0, 0, 0, 0), NONE);
        Check.due("1", x.sure(0, 0, 1, 0), 1);
        Check.due("2", x.sure(0, 0, 2, 0), 1);
        Check.due("3", x.sure(0, 0, 3, 0), NONE);
        Check.due("8", x.sure(0, 0, 8, 0), NONE);
        Check.due("9", x.sure(0, 0, 9, 0), NONE);
        Check.due("-1", x.sure(0, 0, -1, 0), NONE);
        for (int stroke : Texts.NO_INDEX) {
            Check.due("stroke " + stroke, x.sure(0, 0, stroke, 0), NONE);
        }
        x = Used.of("place a;rule 1;strokes 8;" + Texts.persons(1, 0));
        Check.due("8 of 8", x.sure(0, 0, 8, 0), 2);
        Check.due("9 of 8", x.sure(0, 0, 9, 0), NONE);
    }

    private static void isTwoInAll() {
        Check.sentence("2 if in all PLANS that AGREE");
        Used x = Used.of(Texts.FOUR);
        x.count(1, 2, 2);
        Check.due("r must go to c", x.sure(2, 2, 1, 0), 2);
        Check.due("s must go to c", x.sure(3, 2, 1, 0), 2);
        Check.due("of one plan alone", Used.of("place a;place b;" + Texts.persons(2, 0)).sure(1, 0, 3, 0), 2);
    }

    private static void isOneInSome() {
        Check.sentence("1 if in some");
        Used x = Used.of(Texts.FOUR);
        x.count(1, 2, 2);
        Check.due("p may stay", x.sure(0, 0, 1, 0), 1);
        Check.due("p may go to b", x.sure(0, 1, 1, 0), 1);
        x = Used.of(Texts.SIX_PLACES + Texts.allWays(60) + Texts.persons(5, 0) + "rule 1;strokes 8;");
        x.count(8, 5, 1);
        Check.due("in a few", x.sure(4, 5, 8, 0), 1);
        Check.due("in all but a few", x.sure(4, 0, 8, 0), 1);
        x.count(8, 0, 4);
        Check.due("in one of five", x.sure(4, 5, 8, 0), 1);
        Check.due("in four of five", x.sure(4, 0, 8, 0), 1);
    }

    private static void isZeroInNone() {
        Check.sentence("0 if in none");
        Used x = Used.of(Texts.FOUR);
        Check.due("p does not get to c", x.sure(0, 2, 1, 0), 0);
        x.count(1, 2, 2);
        Check.due("r must be at c", x.sure(2, 0, 1, 0), 0);
        Check.due("r must be at c", x.sure(2, 1, 1, 0), 0);
    }

    private static void isZeroWhenNoneAgrees() {
        Check.sentence("(0, too, if none AGREES)");
        Used x = Used.of(Texts.FOUR);
        x.count(2, 0, 1);
        for (int place = 0; place < 3; place++) {
            Check.due("p", x.sure(0, place, 1, 0), 0);
            Check.due("s", x.sure(3, place, 2, 0), 0);
        }
        Check.due("never lawful", Used.of("place a;" + Texts.persons(1, 0)).sure(0, 0, 1, 0), 0);
        Check.due("never lawful", Used.of("place a;rule 0;" + Texts.persons(2, 0)).sure(1, 0, 1, 0), 0);
    }

    private static void takesAnyK() {
        Check.sentence("As known at k");
        Used x = Used.of(Texts.FOUR);
        x.later(5);
        x.count(1, 2, 2);
        Check.due("the least", x.sure(2, 2, 1, Integer.MIN_VALUE), 1);
        Check.due("ahead of 0", x.sure(2, 2, 1, -1), 1);
        Check.due("ahead of it", x.sure(2, 2, 1, 4), 1);
        Check.due("at it", x.sure(2, 2, 1, 5), 2);
        Check.due("the most", x.sure(2, 2, 1, Integer.MAX_VALUE), 2);
        Check.due("nobody, any k", x.sure(4, 2, 1, Integer.MAX_VALUE), NONE);
    }

    private static void changesWithWhatIsKnown() {
        Check.sentence("those count that were TOLD at k or before, not UNTOLD at k or before");
        Used x = Used.of(Texts.FOUR);
        Check.due("at first", x.sure(2, 2, 1, 0), 1);
        x.count(1, 2, 2);
        Check.due("told", x.sure(2, 2, 1, 0), 2);
        x.later(3);
        x.untell(0);
        Check.due("ahead of it", x.sure(2, 2, 1, 2), 2);
        Check.due("untold", x.sure(2, 2, 1, 3), 1);
        x.count(1, 2, 0);
        Check.due("against it", x.sure(2, 2, 1, 3), 0);
        x.count(3, 0, 1);
        Check.due("behind the last", x.sure(0, 0, 1, 3), 1);
        x.town(Texts.FOUR);
        Check.due("another town", x.sure(2, 2, 1, 3), 1);
    }

    private Promise26SureTest() {
    }
}
