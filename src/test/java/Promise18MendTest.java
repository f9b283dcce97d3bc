/** Promise 18: mend. */
final class Promise18MendTest {
    private static final int NONE = EvenTown.NONE;
    private static final String ABCD = "place a;place b;place c;place d;";
    private static final String PQRS = "person p at a hire 0;person q at b hire 0;person r at c hire 0;person s at d hire 0;";

    public static void main(String[] args) {
        Check.promise(18, "mend");
        isZeroWhenAllIsEven();
        isNoneOfAnOddNumberOfPersons();
        isNoneWithoutAWay();
        isTheWalkOfTwo();
        isTheLeastOfAllPairings();
        goesByAllWays();
        takesNoHeedOfEmptyAndRule();
        takesNoHeedOfTheHour();
        isFromWherePersonsAre();
        isAtItsMost();
        leavesAllAsItWas();
        Check.close();
    }

    private static void isZeroWhenAllIsEven() {
        Check.sentence("in each PLACE there is an even number: 0");
        Check.due("nobody", new Used().mend(), 0);
        Check.due("nobody anywhere", Used.of(Texts.SIX_PLACES).mend(), 0);
        Check.due("two", Used.of("place a;place b;" + Texts.persons(2, 0)).mend(), 0);
        Check.due("four", Used.of("place a;place b;" + Texts.persons(4, 0)).mend(), 0);
        Check.due("two and two", Used.of(Texts.FOUR).mend(), 0);
    }

    private static void isNoneOfAnOddNumberOfPersons() {
        Check.sentence("none, if that can't be: an odd number of PERSONS");
        for (int many = 1; many <= 5; many += 2) {
            Check.due(many + " at one", Used.of("place a;" + Texts.persons(many, 0)).mend(), NONE);
            Check.due(many + " with ways", Used.of(Texts.SIX_PLACES + Texts.allWays(1) + Texts.persons(many, 0)).mend(), NONE);
        }
        Used x = Used.of(ABCD + "place e;way a b minutes 1;way b c minutes 1;way c d minutes 1;way d e minutes 1;" + PQRS
                + "person t at e hire 0;");
        Check.due("one at each of five", x.mend(), NONE);
        x = Used.of("place a;place b;place c;way a b minutes 5;person p at a hire 0;person q at b hire 0;"
                + "person r at c hire 0;");
        Check.due("one at each of three", x.mend(), NONE);
    }

    private static void isNoneWithoutAWay() {
        Check.sentence("none, if that can't be: no way");
        Check.due("two", Used.of("place a;place b;person p at a hire 0;person q at b hire 0;").mend(), NONE);
        Check.due("four, one way", Used.of(ABCD + "way a b minutes 1;" + PQRS).mend(), NONE);
        Check.due("four, three with ways", Used.of(ABCD + "way a b minutes 1;way b c minutes 1;" + PQRS).mend(), NONE);
        Check.due("four, two ways", Used.of(ABCD + "way a b minutes 1;way c d minutes 2;" + PQRS).mend(), 3);
    }

    private static void isTheWalkOfTwo() {
        Check.sentence("that of pairing PLACES with odd numbers: two");
        Used x = Used.of("place a;place b;place c;way a b minutes 7;way b c minutes 8;person p at a hire 0;"
                + "person q at c hire 0;person r at b hire 0;person s at b hire 0;");
        Check.due("by an even place", x.mend(), 15);
        x = Used.of("place a;place b;way a b minutes 1;" + Texts.persons(3, 0) + "person z at b hire 0;");
        Check.due("three and one", x.mend(), 1);
        x = Used.of(Texts.SIX_PLACES + "way e f minutes 999;person p at e hire 0;person q at f hire 0;");
        Check.due("the last two", x.mend(), 999);
    }

    private static void isTheLeastOfAllPairings() {
        Check.sentence("the least MINUTES that PERSONS walk, all together");
        String[] pairs = {"way a b minutes 5;way c d minutes 6;", "way a c minutes 5;way b d minutes 6;",
            "way a d minutes 5;way b c minutes 6;"};
        for (String near : pairs) {
            String far = near.contains("a b") ? "way a c minutes 100;" : "way a b minutes 100;";
            Check.due("near are " + near, Used.of(ABCD + near + far + PQRS).mend(), 11);
        }
        Check.due("on a line", Used.of(ABCD + "way a b minutes 10;way b c minutes 1;way c d minutes 10;" + PQRS).mend(), 20);
        Check.due("as a star", Used.of(ABCD + "place e;way a e minutes 1;way b e minutes 2;way c e minutes 3;"
                + "way d e minutes 4;" + PQRS).mend(), 10);
        Check.due("the nearest two are not a pair", Used.of(ABCD + "way a b minutes 1;way a c minutes 2;way b d minutes 2;"
                + PQRS).mend(), 4);
    }

    private static void goesByAllWays() {
        Check.sentence("MINUTES that PERSONS walk: the least by ways");
        Used x = Used.of(ABCD + "way a b minutes 900;way a c minutes 1;way c d minutes 1;way d b minutes 1;"
                + "person p at a hire 0;person q at b hire 0;");
        Check.due("by two others", x.mend(), 3);
    }

    private static void takesNoHeedOfEmptyAndRule() {
        Check.sentence("(empty and rule do not matter)");
        Used x = Used.of("place a empty;place b;rule here = 9;" + Texts.persons(2, 0));
        Check.due("even at an empty place", x.mend(), 0);
        x = Used.of("place a empty;place b empty;way a b minutes 6;rule here = 1;person p at a hire 0;person q at b hire 0;");
        Check.due("odd is right by the rule", x.mend(), 6);
    }

    private static void takesNoHeedOfTheHour() {
        Check.sentence("the least MINUTES that PERSONS walk: in as many hours as it takes");
        Used x = Used.of("place a;place b;way a b minutes 61;person p at a hire 0;person q at b hire 0;");
        Check.due("61 of 60", x.mend(), 61);
        x = Used.of("place a;place b;way a b minutes 999;hour 1;person p at a hire 0;person q at b hire 0;");
        Check.due("999 of 1", x.mend(), 999);
    }

    private static void isFromWherePersonsAre() {
        Check.sentence("from where PERSONS are in earnest");
        Used x = Used.of(Texts.FOUR);
        x.send(0, 1);
        Check.due("sent, not yet gone", x.mend(), 0);
        x.strike();
        Check.due("gone", x.mend(), 30);
        x.send(0, 2);
        x.strike();
        Check.due("gone on", x.mend(), 80);
        x.image(0);
        x.send(1, 1);
        x.strike();
        Check.due("another gone", x.mend(), 50);
        x.back(0);
        Check.due("back", x.mend(), 80);
        x.town(Texts.FOUR);
        Check.due("another town", x.mend(), 0);
    }

    private static void isAtItsMost() {
        Check.sentence("the least MINUTES: two pairs, by all ways");
        Used x = Used.of(Texts.SIX_PLACES + "way a b minutes 999;way b c minutes 999;way c d minutes 999;"
                + "way d e minutes 999;way e f minutes 999;person p at a hire 0;person q at f hire 0;");
        Check.due("from end to end", x.mend(), 4995);
    }

    private static void leavesAllAsItWas() {
        Check.sentence("MEND: it is asked, not done");
        Used x = Used.of(Texts.FOUR);
        x.send(0, 1);
        x.strike();
        String before = Seen.of(x);
        x.mend();
        Seen.same("behind mend", x, before);
    }

    private Promise18MendTest() {
    }
}
