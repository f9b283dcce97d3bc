/** Promise 11: best. */
final class Promise11BestTest {
    private static final int GAP = EvenTown.GAP;

    public static void main(String[] args) {
        Check.promise(11, "best");
        isByThree();
        isTheMost();
        isNoneWithoutALawfulPlan();
        isNoneWhenErrandsCannotBeDone();
        isNoneWithAnErrandBehindTheLast();
        choosesAmongErrands();
        getsThereInJustAnHour();
        standsAtItsMost();
        standsAtItsLeast();
        standsInTheSmallestTowns();
        takesNoHeedOfEarnestAndTold();
        Check.close();
    }

    private static void best(String town, int worth, int companions, int minutes) {
        Used x = Used.of(town);
        Check.due("best 0 of " + town, x.best(0), worth);
        Check.due("best 1 of " + town, x.best(1), companions);
        Check.due("best 2 of " + town, x.best(2), minutes);
        Check.due("best 0 again of " + town, x.best(0), worth);
    }

    private static void isByThree() {
        Check.sentence("GAP for another what");
        Used x = new Used();
        for (int what = 0; what < 3; what++) {
            Check.due("what " + what, x.best(what), 0);
        }
        Check.due("what 3", x.best(3), GAP);
        Check.due("what -1", x.best(-1), GAP);
        for (int what : Texts.NO_INDEX) {
            Check.due("what " + what, x.best(what), GAP);
        }
    }

    private static void isTheMost() {
        Check.sentence("BEST: of most VALUE");
        best(Texts.FOUR, 3, -3, -160);
        best("place a;place b;way a b minutes 7;person p at a hire 4;person q at a hire 5;strokes 1;"
                + "errand p at b stroke 1 worth 9;", 0, -1, -14);
        best("place a;place b;way a b minutes 7;person p at a hire 4;person q at a hire 5;strokes 1;"
                + "errand p at b stroke 1 worth 10;", 1, -1, -14);
        best("place a;place b;way a b minutes 7;person p at a hire 4;person q at a hire 5;strokes 1;"
                + "errand p at b stroke 1 worth 8;", 0, -1, -14);
    }

    private static void isNoneWithoutALawfulPlan() {
        Check.sentence("GAP if there is none: no LAWFUL PLAN");
        best("place a;person p at a hire 0;", GAP, GAP, GAP);
        best("place a;rule 0;", GAP, GAP, GAP);
        best("place a empty;place b;person p at a hire 0;rule 1;", GAP, GAP, GAP);
        best("place a empty;place b;person p at a hire 2;rule 1;way a b minutes 61;", GAP, GAP, GAP);
        best("place a empty;place b;person p at a hire 2;rule 1;way a b minutes 60;", -6, -3, -60);
        best("place a;rule stroke < 3;", GAP, GAP, GAP);
        best("place a;rule stroke < 3;strokes 2;", 0, 0, 0);
        best("place a;rule stroke > 1;strokes 1;", GAP, GAP, GAP);
        best("place a;place b;way a b minutes 9;person p at a hire 0;person q at a hire 0;person r at a hire 0;",
                GAP, GAP, GAP);
    }

    private static void isNoneWhenErrandsCannotBeDone() {
        Check.sentence("(by 1 and 2 all ERRANDS must be DONE; others have none)");
        String p = "place a;place b;place c;way a b minutes 60;rule 1;person p at a hire 1;";
        best(p + "errand p at c stroke 1 worth 9;", 0, GAP, GAP);
        best(p + "errand p at b stroke 1 worth 9;errand p at a stroke 1 worth 9;", 9, GAP, GAP);
        best(p + "errand p at b stroke 1 worth 9;errand p at b stroke 1 worth 9;", 17, 0, -60);
        best(p + "way b c minutes 60;errand p at b stroke 1 worth 9;errand p at c stroke 2 worth 9;", 15, -1, -120);
        best(p + "way b c minutes 60;errand p at b stroke 1 worth 9;errand p at c stroke 2 worth 9;strokes 2;", 16, 0, -120);
        best(p + "way b c minutes 60;errand p at c stroke 1 worth 9;", 0, GAP, GAP);
    }

    private static void isNoneWithAnErrandBehindTheLast() {
        Check.sentence("DONE (one behind the last can't be)");
        String p = "place a;place b;way a b minutes 60;rule 1;person p at a hire 1;";
        best(p + "errand p at b stroke 4 worth 99;", 0, GAP, GAP);
        best(p + "errand p at b stroke 4 worth 99;strokes 4;", 98, 0, -60);
        best(p + "errand p at a stroke 8 worth 99;strokes 7;", 0, GAP, GAP);
        best(p + "errand p at a stroke 8 worth 99;strokes 8;", 99, 0, 0);
    }

    private static void choosesAmongErrands() {
        Check.sentence("worth of all ERRANDS DONE");
        String town = "place a;place b;place c;way a b minutes 5;way a c minutes 5;rule 1;hour 5;person p at a hire 1;"
                + "errand p at b stroke 2 worth 30;errand p at c stroke 3 worth ";
        best(town + "40;", 39, GAP, GAP);
        best(town + "20;", 29, GAP, GAP);
    }

    private static void getsThereInJustAnHour() {
        Check.sentence("One GETS there if that is no more than hour");
        String town = "place a;place b;place c;way a b minutes 30;way b c minutes 30;rule 1;person p at a hire 1;"
                + "strokes 1;errand p at c stroke 1 worth 50;hour ";
        best(town + "60;", 49, 0, -60);
        best(town + "59;", 0, GAP, GAP);
    }

    private static void standsAtItsMost() {
        Check.sentence("most VALUE: 8 ERRANDS of 999");
        best("place a;rule 1;person p at a hire 99;" + "errand p at a stroke 1 worth 999;".repeat(8), 7992, 0, 0);
        best("place a;place b;way a b minutes 999;hour 999;rule 1;strokes 8;person p at a hire 99;"
                + "errand p at b stroke 8 worth 999;", 900, 0, -999);
    }

    /** At odd strokes all must be at b, at even ones at a. */
    private static void standsAtItsLeast() {
        Check.sentence("BEST: of all five, who must walk an hour at each of 8 STROKES");
        best("place a;place b;way a b minutes 999;hour 999;strokes 8;" + Texts.persons(5, 99)
                + "rule place = stroke - stroke / 2 * 2 or here = 0;", -1980, -20, -39960);
        best("place a empty;place b;way a b minutes 1;strokes 8;rule 1;" + Texts.persons(5, 99), -3960, -40, -5);
    }

    private static void standsInTheSmallestTowns() {
        Check.sentence("BEST of a TOWN without PERSONS, or of one PLACE");
        best("", 0, 0, 0);
        best("place a;", 0, 0, 0);
        best(Texts.SIX_PLACES, 0, 0, 0);
        best("place a;" + Texts.persons(2, 9), 0, 0, 0);
        best("place a;" + Texts.persons(5, 9), GAP, GAP, GAP);
        best("place a;strokes 1;" + Texts.persons(4, 9), 0, 0, 0);
    }

    private static void takesNoHeedOfEarnestAndTold() {
        Check.sentence("BEST: from HOME, whatever is in earnest, TOLD and counted");
        Used x = Used.of(Texts.FOUR);
        x.send(3, 2);
        x.strike();
        x.count(1, 2, 4);
        x.plan("p b c;q b c;r a;");
        Check.due("best 0", x.best(0), 3);
        Check.due("best 1", x.best(1), -3);
        Check.due("best 2", x.best(2), -160);
        x.states(1, 0);
        Check.due("bestAt", x.bestAt(0, 1, 3), 1);
    }

    private Promise11BestTest() {
    }
}
