/** Promise 7: minutes. */
final class Promise07MinutesTest {
    private static final int NONE = EvenTown.NONE;

    public static void main(String[] args) {
        Check.promise(7, "minutes");
        isZeroOfOne();
        isNoneWithoutAWay();
        isNoneOfNoPlace();
        isTheLeastByWays();
        isTheSameEitherWay();
        goesByAllWays();
        standsAtTheEdgesOfAWay();
        takesNoHeedOfTheHour();
        takesNoHeedOfEmptyAndRule();
        Check.close();
    }

    private static void isZeroOfOne() {
        Check.sentence("0 of one");
        Used x = Used.of(Texts.SIX_PLACES);
        for (int place = 0; place < 6; place++) {
            Check.due("of one without ways", x.minutes(place, place), 0);
        }
        x = Used.of(Texts.SIX_PLACES + Texts.allWays(1));
        for (int place = 0; place < 6; place++) {
            Check.due("of one with ways", x.minutes(place, place), 0);
        }
    }

    private static void isNoneWithoutAWay() {
        Check.sentence("NONE if there is no way");
        Used x = Used.of(Texts.SIX_PLACES + "way a b minutes 1;way b c minutes 1;way d e minutes 1;");
        for (int a = 0; a < 3; a++) {
            for (int b = 3; b < 6; b++) {
                Check.due("no way there", x.minutes(a, b), NONE);
                Check.due("no way back", x.minutes(b, a), NONE);
            }
        }
        Check.due("no way", x.minutes(4, 5), NONE);
        Check.due("a way", x.minutes(3, 4), 1);
    }

    private static void isNoneOfNoPlace() {
        Check.sentence("NONE if one is no PLACE");
        Used x = Used.of(Texts.THREE);
        for (int place : new int[] {-1, 3, 4, 5, 6, 7, 12}) {
            Check.due("the second is " + place, x.minutes(0, place), NONE);
            Check.due("the first is " + place, x.minutes(place, 0), NONE);
            Check.due("both are " + place, x.minutes(place, place), NONE);
        }
        for (int place : Texts.NO_INDEX) {
            Check.due("the second is " + place, x.minutes(2, place), NONE);
            Check.due("the first is " + place, x.minutes(place, 2), NONE);
            Check.due("both are " + place, x.minutes(place, place), NONE);
        }
        x = Used.of(Texts.SIX_PLACES + Texts.allWays(1));
        Check.due("the seventh", x.minutes(0, 6), NONE);
        Check.due("the seventh", x.minutes(6, 0), NONE);
        Check.due("ahead of the first", x.minutes(1, -1), NONE);
        Check.due("ahead of the first", x.minutes(-1, 1), NONE);
    }

    private static void isTheLeastByWays() {
        Check.sentence("the least by ways");
        Used x = Used.of("place a;place b;place c;place d;"
                + "way a b minutes 100;way a c minutes 30;way c b minutes 60;way c d minutes 5;way d b minutes 54;");
        Check.due("by two more places", x.minutes(0, 1), 89);
        Check.due("by one more place", x.minutes(2, 1), 59);
        Check.due("by the way itself", x.minutes(0, 2), 30);
        Check.due("by one more place", x.minutes(0, 3), 35);
    }

    private static void isTheSameEitherWay() {
        Check.sentence("either way");
        Used x = Used.of("place a;place b;place c;way b a minutes 7;way b c minutes 8;");
        Check.due("told back", x.minutes(0, 1), 7);
        Check.due("told so", x.minutes(1, 0), 7);
        Check.due("there", x.minutes(0, 2), 15);
        Check.due("back", x.minutes(2, 0), 15);
    }

    /** The places lie on a line, in another row than they are told in. */
    private static void goesByAllWays() {
        Check.sentence("the least by ways: by as many as there are");
        Used x = Used.of(Texts.SIX_PLACES + "way a f minutes 999;way f b minutes 999;way b e minutes 999;"
                + "way e c minutes 999;way c d minutes 999;");
        int[] row = {0, 5, 1, 4, 2, 3};
        for (int i = 0; i < 6; i++) {
            for (int j = 0; j < 6; j++) {
                Check.due("from " + row[i] + " to " + row[j], x.minutes(row[i], row[j]), 999 * Math.abs(i - j));
            }
        }
    }

    private static void standsAtTheEdgesOfAWay() {
        Check.sentence("minutes 1 .. 999");
        Used x = Used.of("place a;place b;place c;way a b minutes 1;way b c minutes 999;");
        Check.due("1", x.minutes(0, 1), 1);
        Check.due("999", x.minutes(1, 2), 999);
        Check.due("1,000 by two", x.minutes(0, 2), 1000);
    }

    private static void takesNoHeedOfTheHour() {
        Check.sentence("MINUTES of two PLACES: whatever the hour is");
        Used x = Used.of(Texts.THREE + "hour 1;");
        Check.due("more than the hour", x.minutes(0, 1), 30);
        Check.due("more than the hour", x.minutes(0, 2), 80);
    }

    private static void takesNoHeedOfEmptyAndRule() {
        Check.sentence("MINUTES of two PLACES: whatever is RIGHT");
        Used x = Used.of("place a;place b empty;place c;way a b minutes 30;way b c minutes 50;rule 0;");
        Check.due("by an empty place", x.minutes(0, 2), 80);
    }

    private Promise07MinutesTest() {
    }
}
