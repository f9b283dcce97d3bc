/** Promise 16: built. */
final class Promise16BuiltTest {
    private static final int GAP = EvenTown.GAP;
    private static final String P = "rule 1;person p at a hire 1;";

    public static void main(String[] args) {
        Check.promise(16, "built");
        tellsValueAndPair();
        isOf1To999Minutes();
        isNoneOfAnotherWhat();
        isNoneOfAnotherPart();
        isNoneOfFewerThanTwoPlaces();
        isNoneWhenThereIsNone();
        isTheFirstOfLikePairs();
        isTheLastPairOfAll();
        isBuiltBesideAWay();
        isBuiltWhereNoWayIs();
        getsThereInJustAnHour();
        shortensOtherWalks();
        isBuiltWhenAllWaysAre();
        leavesAllAsItWas();
        Check.close();
    }

    private static void built(Used x, int minutes, int what, int value, int pair) {
        Check.due(minutes + " minutes by " + what, x.built(minutes, what, -1), value);
        Check.due(minutes + " minutes by " + what + ", pair", x.built(minutes, what, 0), pair);
    }

    private static void tellsValueAndPair() {
        Check.sentence("part -1: the VALUE, 0: 100 * the first PLACE + the second");
        Used x = Used.of(Texts.FOUR);
        built(x, 20, 0, 6, 2);
        built(x, 20, 2, -40, 2);
        built(x, 30, 0, 6, 2);
        built(x, 20, 0, 6, 2);
        x = Used.of(Texts.FOUR);
        Check.due("the pair asked first", x.built(20, 0, 0), 2);
    }

    private static void isOf1To999Minutes() {
        Check.sentence("(minutes 1 .. 999)");
        Used x = Used.of("place a;place b;" + P);
        for (int part = -1; part <= 0; part++) {
            Check.due("0 minutes", x.built(0, 0, part), GAP);
            Check.due("-1 minutes", x.built(-1, 0, part), GAP);
            Check.due("1000 minutes", x.built(1000, 0, part), GAP);
            for (int minutes : Texts.FAR_OFF) {
                Check.due(minutes + " minutes", x.built(minutes, 0, part), GAP);
            }
        }
        built(x, 1, 0, 0, 1);
        built(x, 999, 0, 0, 1);
        x = Used.of("place a;place b;" + P + "strokes 1;hour 999;errand p at b stroke 1 worth 9;");
        built(x, 999, 2, -999, 1);
        built(x, 1, 2, -1, 1);
    }

    private static void isNoneOfAnotherWhat() {
        Check.sentence("GAP for another what");
        Used x = Used.of(Texts.FOUR);
        for (int part = -1; part <= 0; part++) {
            Check.due("what 3", x.built(20, 3, part), GAP);
            Check.due("what -1", x.built(20, -1, part), GAP);
            for (int what : Texts.NO_INDEX) {
                Check.due("what " + what, x.built(20, what, part), GAP);
            }
        }
    }

    private static void isNoneOfAnotherPart() {
        Check.sentence("part -1, 0; GAP likewise");
        Used x = Used.of(Texts.FOUR);
        Check.due("part 1", x.built(20, 0, 1), GAP);
        Check.due("part -2", x.built(20, 0, -2), GAP);
        for (int part : Texts.NO_INDEX) {
            Check.due("part " + part, x.built(20, 0, part), GAP);
        }
    }

    private static void isNoneOfFewerThanTwoPlaces() {
        Check.sentence("GAP likewise (fewer than two PLACES, too)");
        for (int what = 0; what < 3; what++) {
            built(new Used(), 5, what, GAP, GAP);
            built(Used.of("place a;"), 5, what, GAP, GAP);
            built(Used.of("place a;" + P), 5, what, GAP, GAP);
            built(Used.of("place a;place b;"), 5, what, 0, 1);
        }
    }

    private static void isNoneWhenThereIsNone() {
        Check.sentence("GAP likewise: no BEST with any way more");
        Used x = Used.of("place a;place b;rule 0;");
        Used odd = Used.of("place a;place b;person p at a hire 0;");
        Used late = Used.of("place a;place b;" + P + "errand p at a stroke 4 worth 1;");
        for (int what = 0; what < 3; what++) {
            built(x, 5, what, GAP, GAP);
            built(odd, 5, what, GAP, GAP);
            built(late, 5, what, what == 0 ? 0 : GAP, what == 0 ? 1 : GAP);
        }
        Used empty = Used.of("place a empty;place b;" + P);
        built(empty, 60, 0, -3, 1);
        built(empty, 61, 0, GAP, GAP);
    }

    private static void isTheFirstOfLikePairs() {
        Check.sentence("of like ones the first pair");
        built(Used.of(Texts.SIX_PLACES + P), 5, 0, 0, 1);
        Used x = Used.of("place a;place b;place c;place d;way b c minutes 5;" + P + "strokes 1;errand p at c stroke 1 worth 9;");
        built(x, 5, 0, 8, 1);
        built(x, 5, 1, 0, 1);
        built(x, 5, 2, -5, 2);
        built(x, 61, 0, 0, 1);
        x = Used.of("place a;place b;place c;place d;way c d minutes 60;" + P + "strokes 1;errand p at d stroke 1 worth 9;");
        built(x, 60, 0, 8, 3);
        built(x, 61, 0, 0, 1);
        built(x, 61, 1, GAP, GAP);
    }

    private static void isTheLastPairOfAll() {
        Check.sentence("100 * the first PLACE + the second: the last pair");
        Used x = Used.of(Texts.SIX_PLACES + "rule 1;strokes 1;hour 5;person p at f hire 1;errand p at e stroke 1 worth 9;");
        for (int what = 0; what < 3; what++) {
            built(x, 5, what, what == 0 ? 8 : what == 1 ? 0 : -5, 405);
        }
        x = Used.of(Texts.SIX_PLACES + "rule 1;strokes 1;hour 5;person p at b hire 1;errand p at f stroke 1 worth 9;");
        built(x, 5, 0, 8, 105);
    }

    private static void isBuiltBesideAWay() {
        Check.sentence("one way more, of two PLACES (of all pairs, whatever ways there are)");
        Used x = Used.of("place a;place b;way a b minutes 30;" + P + "strokes 1;errand p at b stroke 1 worth 9;");
        built(x, 29, 2, -29, 1);
        built(x, 30, 2, -30, 1);
        built(x, 31, 2, -30, 1);
        built(x, 999, 2, -30, 1);
        x = Used.of("place a;place b;place c;way b c minutes 70;rule 1;strokes 1;person p at b hire 1;"
                + "errand p at c stroke 1 worth 9;");
        built(x, 60, 0, 8, 102);
        built(x, 60, 1, 0, 102);
        built(x, 60, 2, -60, 102);
    }

    private static void isBuiltWhereNoWayIs() {
        Check.sentence("one way more: where there is none");
        Used x = Used.of("place a;place b;place c;place d;way a b minutes 10;way c d minutes 10;" + P
                + "strokes 1;errand p at d stroke 1 worth 9;");
        built(x, 50, 2, -50, 3);
        built(x, 60, 2, -60, 3);
        built(x, 61, 2, GAP, GAP);
        built(x, 61, 0, 0, 1);
        built(x, 50, 0, 8, 2);
        built(x, 51, 0, 8, 3);
    }

    private static void getsThereInJustAnHour() {
        Check.sentence("One GETS there if that is no more than hour");
        Used x = Used.of("place a;place b;hour 40;" + P + "strokes 1;errand p at b stroke 1 worth 9;");
        built(x, 40, 0, 8, 1);
        built(x, 41, 0, 0, 1);
        built(x, 40, 1, 0, 1);
        built(x, 41, 1, GAP, GAP);
    }

    private static void shortensOtherWalks() {
        Check.sentence("BEST with one way more: MINUTES are by all ways");
        Used x = Used.of("place a;place b;place c;place d;way a b minutes 5;way b c minutes 50;way c d minutes 5;" + P
                + "strokes 1;errand p at d stroke 1 worth 9;");
        built(x, 20, 2, -20, 3);
        built(x, 51, 2, -51, 3);
        built(x, 59, 2, -59, 3);
        built(x, 60, 2, -60, 1);
        x = Used.of("place a;place b;place c;place d;way a b minutes 5;way c d minutes 5;" + P
                + "person q at b hire 1;person r at c hire 1;person s at d hire 1;strokes 1;errand p at c stroke 1 worth 9;"
                + "errand q at d stroke 1 worth 9;errand r at b stroke 1 worth 9;errand s at a stroke 1 worth 9;");
        built(x, 20, 2, -100, 2);
        x = Used.of("place a;place b;place c;place d;way a b minutes 1;rule 1;strokes 1;person p at d hire 1;"
                + "person q at d hire 1;person r at d hire 1;errand p at b stroke 1 worth 9;"
                + "errand q at b stroke 1 worth 9;errand r at a stroke 1 worth 9;");
        built(x, 5, 2, -16, 103);
        x = Used.of("place a;place b;place c;place d;way c d minutes 1;rule 1;strokes 1;person p at a hire 1;"
                + "person q at a hire 1;person r at a hire 1;errand p at c stroke 1 worth 9;"
                + "errand q at c stroke 1 worth 9;errand r at d stroke 1 worth 9;");
        built(x, 5, 2, -16, 2);
    }

    private static void isBuiltWhenAllWaysAre() {
        Check.sentence("of all pairs, whatever ways there are: of 15 ways one more");
        Used x = Used.of(Texts.SIX_PLACES + Texts.allWays(50) + P + "strokes 1;errand p at f stroke 1 worth 9;");
        built(x, 1, 2, -1, 5);
        built(x, 50, 2, -50, 1);
        Check.due("ways", x.about(4), 15);
    }

    private static void leavesAllAsItWas() {
        Check.sentence("BEST with one way more: it is asked, not done");
        Used x = Used.of(Texts.FOUR);
        String before = Seen.of(x);
        for (int what = 0; what < 3; what++) {
            x.built(1, what, -1);
        }
        Seen.same("behind built", x, before);
        Check.due("no way there in earnest", x.send(0, 2), false);
    }

    private Promise16BuiltTest() {
    }
}
