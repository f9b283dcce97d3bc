/** Promise 13: breaks. */
final class Promise13BreaksTest {
    private static final int GAP = EvenTown.GAP;

    public static void main(String[] args) {
        Check.promise(13, "breaks");
        tellsValueAndStroke();
        isNoneOfAnotherPart();
        isNoneOfAnotherWhat();
        isNoneWhenOneStrokeIsTooFew();
        isTheFirstOfLikeOnes();
        isAtTheFirstAndTheLastStroke();
        freesAllPlaces();
        freesPlacesToldEmpty();
        freesNoOtherStroke();
        isNoWorseThanTheBest();
        isOfThisTown();
        hasErrandsToBeDone();
        leavesAllAsItWas();
        Check.close();
    }

    private static void breaks(Used x, int what, int value, int stroke) {
        Check.due("value by " + what, x.breaks(what, -1), value);
        Check.due("stroke by " + what, x.breaks(what, 0), stroke);
        Check.due("value by " + what + " again", x.breaks(what, -1), value);
    }

    private static void tellsValueAndStroke() {
        Check.sentence("-1: the VALUE, 0: the STROKE");
        Used x = Used.of(Texts.FOUR);
        breaks(x, 0, 5, 2);
        breaks(x, 1, -2, 2);
        breaks(x, 2, -110, 2);
        breaks(x, 0, 5, 2);
        x = Used.of(Texts.FOUR);
        Check.due("the stroke asked first", x.breaks(2, 0), 2);
    }

    private static void isNoneOfAnotherPart() {
        Check.sentence("GAP likewise (part -1, 0)");
        Used x = Used.of(Texts.FOUR);
        Check.due("part 1", x.breaks(0, 1), GAP);
        Check.due("part 2", x.breaks(0, 2), GAP);
        Check.due("part -2", x.breaks(0, -2), GAP);
        for (int part : Texts.NO_INDEX) {
            Check.due("part " + part, x.breaks(0, part), GAP);
        }
    }

    private static void isNoneOfAnotherWhat() {
        Check.sentence("GAP for another what");
        Used x = Used.of(Texts.FOUR);
        for (int part = -1; part <= 0; part++) {
            Check.due("what 3", x.breaks(3, part), GAP);
            Check.due("what -1", x.breaks(-1, part), GAP);
            for (int what : Texts.NO_INDEX) {
                Check.due("what " + what, x.breaks(what, part), GAP);
            }
        }
    }

    private static void isNoneWhenOneStrokeIsTooFew() {
        Check.sentence("GAP if there is none");
        for (int what = 0; what < 3; what++) {
            breaks(Used.of("place a;person p at a hire 0;strokes 2;"), what, GAP, GAP);
            breaks(Used.of("place a;person p at a hire 0;strokes 1;"), what, 0, 1);
            breaks(Used.of("place a;rule stroke = 4;strokes 6;"), what, GAP, GAP);
        }
    }

    private static void isTheFirstOfLikeOnes() {
        Check.sentence("that by which it is most (of like ones the first)");
        for (int what = 0; what < 3; what++) {
            breaks(new Used(), what, 0, 1);
            breaks(Used.of("place a;strokes 8;" + Texts.persons(4, 9)), what, 0, 1);
        }
        Used x = Used.of("place a;place b;way a b minutes 1;strokes 4;person p at a hire 2;person q at a hire 3;"
                + "errand p at b stroke 2 worth 9;errand p at b stroke 4 worth 9;");
        breaks(x, 0, 11, 2);
        breaks(x, 1, -1, 2);
        breaks(x, 2, -2, 1);
    }

    private static void isAtTheFirstAndTheLastStroke() {
        Check.sentence("at one STROKE (1 .. strokes)");
        for (int stroke = 1; stroke <= 8; stroke++) {
            Used x = Used.of("place a;strokes 8;rule not stroke = " + stroke + ";");
            breaks(x, 0, 0, stroke);
            breaks(x, 1, 0, stroke);
            breaks(x, 2, 0, stroke);
        }
        breaks(Used.of("place a;strokes 7;rule not stroke = 8;"), 0, 0, 1);
    }

    private static void freesAllPlaces() {
        Check.sentence("with all PLACES taken as RIGHT at one STROKE");
        Used x = Used.of(Texts.SIX_PLACES + "rule stroke = 1 or stroke = 3;" + Texts.persons(5, 1));
        breaks(x, 0, 0, 2);
        x = Used.of(Texts.SIX_PLACES + "rule stroke = 1 or stroke = 3 and place < 5;" + Texts.persons(5, 1));
        breaks(x, 0, GAP, GAP);
    }

    private static void freesPlacesToldEmpty() {
        Check.sentence("taken as RIGHT: those told empty, too");
        Used x = Used.of("place a empty;place b;way a b minutes 10;rule 1;strokes 3;person p at a hire 1;");
        breaks(x, 0, -2, 1);
        breaks(x, 1, -2, 1);
        breaks(x, 2, -10, 1);
        x = Used.of("place a;place b empty;way a b minutes 10;rule 1;strokes 3;person p at a hire 1;"
                + "errand p at b stroke 2 worth 5;");
        breaks(x, 0, 4, 2);
    }

    private static void freesNoOtherStroke() {
        Check.sentence("at one STROKE");
        Used x = Used.of("place a;place b;way a b minutes 10;strokes 3;person p at a hire 1;person q at a hire 50;"
                + "errand p at b stroke 1 worth 9;errand p at b stroke 2 worth 8;errand p at b stroke 3 worth 7;");
        breaks(x, 0, 8, 1);
        x = Used.of("place a;place b;way a b minutes 10;strokes 3;person p at a hire 1;person q at a hire 50;"
                + "errand p at b stroke 1 worth 9;errand p at b stroke 2 worth 9;errand p at b stroke 3 worth 10;");
        breaks(x, 0, 9, 3);
    }

    private static void isNoWorseThanTheBest() {
        Check.sentence("BEST by what with all PLACES taken as RIGHT: the STROKE at which nothing is gained");
        Used x = Used.of("place a;place b;way a b minutes 10;strokes 2;rule 1;person p at a hire 1;"
                + "errand p at b stroke 2 worth 9;");
        breaks(x, 0, 8, 1);
        breaks(x, 1, 0, 1);
        breaks(x, 2, -10, 1);
    }

    private static void isOfThisTown() {
        Check.sentence("BREAK by what: of the TOWN that there is");
        Used x = Used.of("place a;rule not stroke = 2;");
        for (int what = 0; what < 3; what++) {
            breaks(x, what, 0, 2);
        }
        x.town("place a;rule not stroke = 3;");
        for (int what = 0; what < 3; what++) {
            breaks(x, what, 0, 3);
        }
    }

    private static void hasErrandsToBeDone() {
        Check.sentence("BEST by what (by 1 and 2 all ERRANDS must be DONE)");
        String town = "place a;place b;rule 1;strokes 2;person p at a hire 1;";
        Used x = Used.of(town + "errand p at b stroke 2 worth 9;");
        breaks(x, 0, 0, 1);
        breaks(x, 1, GAP, GAP);
        breaks(x, 2, GAP, GAP);
        x = Used.of(town + "errand p at a stroke 3 worth 9;");
        breaks(x, 0, 0, 1);
        breaks(x, 1, GAP, GAP);
        breaks(x, 2, GAP, GAP);
    }

    private static void leavesAllAsItWas() {
        Check.sentence("taken as RIGHT: it is asked, not done");
        Used x = Used.of(Texts.FOUR);
        String before = Seen.of(x);
        for (int what = 0; what < 3; what++) {
            x.breaks(what, -1);
        }
        Seen.same("behind breaks", x, before);
    }

    private Promise13BreaksTest() {
    }
}
