/** Promise 17: meet. */
final class Promise17MeetTest {
    private static final int NONE = EvenTown.NONE;

    public static void main(String[] args) {
        Check.promise(17, "meet");
        isTheFirstStroke();
        isTheSameEitherWay();
        isNoneOfOnePerson();
        isNoneOfNoPerson();
        isNoneOfNoPlace();
        isNoneWhenItIsNever();
        isOfJustTheseTwo();
        isInAPlanThatIsLawfulToItsEnd();
        isUpToTheLastStroke();
        isInAnyLawfulPlan();
        takesNoHeedOfCountsAndEarnest();
        Check.close();
    }

    private static void isTheFirstStroke() {
        Check.sentence("the first STROKE");
        Used x = Used.of(Texts.FOUR);
        Check.due("p and q at a", x.meet(0, 1, 0), 1);
        Check.due("p and q at c", x.meet(0, 1, 2), 2);
        Check.due("r and s at c", x.meet(2, 3, 2), 1);
        x = Used.of(Texts.SIX_PLACES + "way a b minutes 60;way b c minutes 60;way c d minutes 60;way d e minutes 60;"
                + "way e f minutes 60;strokes 8;person p at a hire 0;person q at b hire 0;rule 1;");
        int[] first = {1, 1, 2, 3, 4, 5};
        for (int place = 0; place < 6; place++) {
            Check.due("at place " + place, x.meet(0, 1, place), first[place]);
        }
    }

    private static void isTheSameEitherWay() {
        Check.sentence("MEET of two PERSONS");
        Used x = Used.of(Texts.FOUR);
        for (int a = 0; a < 4; a++) {
            for (int b = 0; b < a; b++) {
                for (int place = 0; place < 3; place++) {
                    Check.due(a + " with " + b, x.meet(a, b, place), x.meet(b, a, place));
                }
            }
        }
    }

    private static void isNoneOfOnePerson() {
        Check.sentence("NONE if one can't be (both one PERSON, too)");
        Used x = Used.of("place a;place b;way a b minutes 1;rule 1;" + Texts.persons(5, 0));
        for (int person = 0; person < 5; person++) {
            Check.due("person " + person, x.meet(person, person, 0), NONE);
            Check.due("person " + person, x.meet(person, person, 1), NONE);
        }
        Check.due("two of them", x.meet(3, 4, 1), 1);
    }

    private static void isNoneOfNoPerson() {
        Check.sentence("NONE if one can't be: a PERSON");
        Used x = Used.of(Texts.FOUR);
        for (int person : new int[] {-1, 4, 5, 6, -4}) {
            Check.due("person " + person, x.meet(0, person, 0), NONE);
            Check.due("person " + person, x.meet(person, 0, 0), NONE);
            Check.due("person " + person, x.meet(person, person, 0), NONE);
        }
        for (int person : Texts.NO_INDEX) {
            Check.due("person " + person, x.meet(0, person, 0), NONE);
            Check.due("person " + person, x.meet(person, 0, 0), NONE);
        }
        Check.due("the last", x.meet(0, 3, 1), 1);
        Check.due("of one", Used.of("place a;rule 1;person p at a hire 1;").meet(0, 1, 0), NONE);
    }

    private static void isNoneOfNoPlace() {
        Check.sentence("NONE if one can't be: a PLACE");
        Used x = Used.of(Texts.FOUR);
        Check.due("place 3", x.meet(0, 1, 3), NONE);
        Check.due("place -1", x.meet(0, 1, -1), NONE);
        for (int place : Texts.NO_INDEX) {
            Check.due("place " + place, x.meet(0, 1, place), NONE);
        }
        x = Used.of(Texts.SIX_PLACES + Texts.allWays(1) + Texts.persons(2, 0));
        Check.due("the last", x.meet(0, 1, 5), 1);
        Check.due("behind the last", x.meet(0, 1, 6), NONE);
    }

    private static void isNoneWhenItIsNever() {
        Check.sentence("NONE if it is never");
        Used x = Used.of("place a;place b;rule here < 2;person p at a hire 0;person q at b hire 0;way a b minutes 1;");
        Check.due("they are kept apart", x.meet(0, 1, 0), NONE);
        x = Used.of("place a;place b;rule 1;person p at a hire 0;person q at b hire 0;");
        Check.due("there is no way", x.meet(0, 1, 0), NONE);
        x = Used.of("place a;place b empty;way a b minutes 1;rule 1;person p at a hire 0;person q at a hire 0;");
        Check.due("nobody may be there", x.meet(0, 1, 1), NONE);
        Check.due("they may be here", x.meet(0, 1, 0), 1);
        x = Used.of("place a;place b;rule stroke < 3;person p at a hire 0;person q at a hire 0;");
        Check.due("there is no lawful plan", x.meet(0, 1, 0), NONE);
    }

    private static void isOfJustTheseTwo() {
        Check.sentence("just these two are there");
        Used x = Used.of("place a;place b;way a b minutes 9;strokes 2;rule here = 3 or here = 0;" + Texts.persons(3, 0));
        Check.due("always three", x.meet(0, 1, 0), NONE);
        x = Used.of("place a;place b;rule 1;" + Texts.persons(3, 0));
        Check.due("the third can't go", x.meet(0, 1, 0), NONE);
        x = Used.of("place a;place b;way a b minutes 9;rule stroke > 1 or place = 0 or here = 0;" + Texts.persons(3, 0));
        Check.due("the third can go at stroke 2", x.meet(0, 1, 0), 2);
        Check.due("they can go at stroke 2", x.meet(0, 1, 1), 2);
        x = Used.of("place a;place b;way a b minutes 9;strokes 1;rule place = 0 or here = 4;" + Texts.persons(5, 0));
        Check.due("four", x.meet(0, 1, 1), NONE);
        x = Used.of("place a;place b;way a b minutes 9;strokes 1;dog d at b;rule place = 0 or here = 2;" + Texts.persons(5, 0));
        Check.due("dogs do not count", x.meet(3, 4, 1), 1);
    }

    private static void isInAPlanThatIsLawfulToItsEnd() {
        Check.sentence("in a LAWFUL PLAN: at each STROKE");
        String town = "place a;place b;place c;way a b minutes 9;way a c minutes 9;person p at a hire 0;"
                + "person q at a hire 0;strokes 2;rule stroke = 1 or place = 2 and here = 2 or place < 2 and here = 0;hour ";
        Used x = Used.of(town + "9;");
        Check.due("at b no plan goes on", x.meet(0, 1, 1), NONE);
        Check.due("at a one does", x.meet(0, 1, 0), 1);
        Check.due("at c one does", x.meet(0, 1, 2), 1);
        Check.due("from b to c in 18", Used.of(town + "18;").meet(0, 1, 1), 1);
        x = Used.of("place a;place b;place c;way a b minutes 60;way b c minutes 60;strokes 3;person p at b hire 0;"
                + "person q at b hire 0;rule stroke = 1 or place = 2 or here = 0 or place = 0 and stroke = 2;");
        Check.due("from a nobody is at c at 3, but by b", x.meet(0, 1, 0), NONE);
        Check.due("at b", x.meet(0, 1, 1), 1);
        Check.due("at c", x.meet(0, 1, 2), 1);
        x = Used.of("place a;rule not stroke = 8;strokes 8;" + Texts.persons(2, 0));
        Check.due("not right at the last", x.meet(0, 1, 0), NONE);
    }

    private static void isUpToTheLastStroke() {
        Check.sentence("the first STROKE (1 .. strokes)");
        String town = "place a;place b;way a b minutes 9;rule here = 0 or place = 0 or stroke = 8;"
                + Texts.persons(2, 0) + "strokes ";
        Check.due("8 of 8", Used.of(town + "8;").meet(0, 1, 1), 8);
        Check.due("8 of 7", Used.of(town + "7;").meet(0, 1, 1), NONE);
    }

    private static void isInAnyLawfulPlan() {
        Check.sentence("in a LAWFUL PLAN: ERRANDS need not be DONE");
        Used x = Used.of("place a;place b;way a b minutes 9;strokes 1;" + Texts.persons(2, 99)
                + "errand p at a stroke 1 worth 999;errand p at a stroke 8 worth 1;");
        Check.due("at a", x.meet(0, 1, 0), 1);
        Check.due("at b", x.meet(0, 1, 1), 1);
    }

    private static void takesNoHeedOfCountsAndEarnest() {
        Check.sentence("in a LAWFUL PLAN: whatever is told and in earnest");
        Used x = Used.of(Texts.FOUR);
        x.count(1, 0, 3);
        x.count(2, 2, 0);
        Check.due("none agrees", x.states(1, 0), 0);
        Check.due("p and q at a", x.meet(0, 1, 0), 1);
        Check.due("p and q at c", x.meet(0, 1, 2), 2);
        x.send(2, 2);
        x.strike();
        Check.due("none agrees still", x.states(1, 0), 0);
        Check.due("r and s at c", x.meet(2, 3, 2), 1);
    }

    private Promise17MeetTest() {
    }
}
