/** Promise 14: spare. */
final class Promise14SpareTest {
    private static final int GAP = EvenTown.GAP;

    public static void main(String[] args) {
        Check.promise(14, "spare");
        isTheValueOfEachPlace();
        isNoneOfNoPlace();
        isNoneOfAnotherWhat();
        isNoneWhenAnotherPlaceIsWrong();
        sparesAtAllStrokes();
        sparesAPlaceToldEmpty();
        sparesSoManyAsThereAre();
        hasErrandsToBeDone();
        leavesAllAsItWas();
        Check.close();
    }

    private static void spare(Used x, int place, int worth, int companions, int minutes) {
        Check.due("place " + place + " by 0", x.spare(place, 0), worth);
        Check.due("place " + place + " by 1", x.spare(place, 1), companions);
        Check.due("place " + place + " by 2", x.spare(place, 2), minutes);
    }

    /** With a spared: p alone goes by b, where one is odd, so another must come there, or nobody at all. */
    private static void isTheValueOfEachPlace() {
        Check.sentence("VALUE of SPARE of a PLACE by what");
        Used x = Used.of("place a;place b;way a b minutes 10;strokes 1;person p at a hire 1;person q at a hire 2;"
                + "errand p at b stroke 1 worth 9;");
        spare(x, 0, 6, -1, -20);
        spare(x, 1, 6, -1, -20);
        x = Used.of("place a;place b;way a b minutes 10;strokes 1;person p at a hire 1;person q at a hire 2;"
                + "person r at a hire 3;errand p at b stroke 1 worth 9;");
        spare(x, 0, 6, -1, -20);
        spare(x, 1, 8, 0, -10);
        spare(Used.of(Texts.FOUR), 2, 3, -3, -160);
    }

    private static void isNoneOfNoPlace() {
        Check.sentence("GAP likewise: no PLACE");
        Used x = Used.of(Texts.FOUR);
        for (int what = 0; what < 3; what++) {
            Check.due("place 3", x.spare(3, what), GAP);
            Check.due("place -1", x.spare(-1, what), GAP);
            Check.due("place 6", x.spare(6, what), GAP);
        }
        for (int place : Texts.NO_INDEX) {
            Check.due("place " + place, x.spare(place, 0), GAP);
        }
        x = Used.of(Texts.SIX_PLACES);
        Check.due("the last", x.spare(5, 0), 0);
        Check.due("behind the last", x.spare(6, 0), GAP);
        Check.due("of none", new Used().spare(0, 0), GAP);
    }

    private static void isNoneOfAnotherWhat() {
        Check.sentence("GAP for another what");
        Used x = Used.of(Texts.FOUR);
        Check.due("what 3", x.spare(0, 3), GAP);
        Check.due("what -1", x.spare(0, -1), GAP);
        for (int what : Texts.NO_INDEX) {
            Check.due("what " + what, x.spare(0, what), GAP);
        }
    }

    private static void isNoneWhenAnotherPlaceIsWrong() {
        Check.sentence("GAP if there is none");
        Used x = Used.of("place a;place b;rule 0;");
        spare(x, 0, GAP, GAP, GAP);
        spare(x, 1, GAP, GAP, GAP);
        x = Used.of("place a;place b;rule place = 1;");
        spare(x, 0, 0, 0, 0);
        spare(x, 1, GAP, GAP, GAP);
        x = Used.of(Texts.SIX_PLACES + "rule place < 5;");
        spare(x, 5, 0, 0, 0);
        spare(x, 4, GAP, GAP, GAP);
    }

    private static void sparesAtAllStrokes() {
        Check.sentence("with that PLACE taken as RIGHT at all STROKES");
        spare(Used.of("place a;rule 0;strokes 8;person p at a hire 1;"), 0, 0, 0, 0);
        spare(Used.of("place a;rule 0;strokes 1;"), 0, 0, 0, 0);
    }

    private static void sparesAPlaceToldEmpty() {
        Check.sentence("taken as RIGHT: one told empty, too");
        Used x = Used.of("place a empty;place b;way a b minutes 9;rule 1;person p at a hire 2;");
        spare(x, 0, 0, 0, 0);
        spare(x, 1, -6, -3, -9);
    }

    private static void sparesSoManyAsThereAre() {
        Check.sentence("taken as RIGHT: with so many as there are (0 .. 5)");
        for (int many = 0; many <= 5; many++) {
            spare(Used.of("place a;place b;rule place = 1 and here = 0;" + Texts.persons(many, 9)), 0, 0, 0, 0);
        }
    }

    private static void hasErrandsToBeDone() {
        Check.sentence("BEST by what (by 1 and 2 all ERRANDS must be DONE)");
        String town = "place a;place b;rule 1;strokes 2;person p at a hire 1;";
        spare(Used.of(town + "errand p at b stroke 2 worth 9;"), 1, 0, GAP, GAP);
        spare(Used.of(town + "errand p at a stroke 3 worth 9;"), 0, 0, GAP, GAP);
    }

    private static void leavesAllAsItWas() {
        Check.sentence("taken as RIGHT: it is asked, not done");
        Used x = Used.of(Texts.FOUR);
        String before = Seen.of(x);
        for (int what = 0; what < 3; what++) {
            x.spare(0, what);
            x.spare(2, what);
        }
        Seen.same("behind spare", x, before);
    }

    private Promise14SpareTest() {
    }
}
