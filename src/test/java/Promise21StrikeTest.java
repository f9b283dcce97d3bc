/** Promise 21: strike. */
final class Promise21StrikeTest {
    private static final int NONE = EvenTown.NONE;

    public static void main(String[] args) {
        Check.promise(21, "strike");
        saysHowManyAreOdd();
        goesOnToEight();
        isNoneBehindEight();
        doesNothingWhenRefused();
        looksAtTheStroke();
        goesOnBehindTheToldStrokes();
        looksAtEmptyPlaces();
        looksAtTownsWithoutPlacesOrPersons();
        looksAtAllPlaces();
        goesOnFromABox();
        Check.close();
    }

    private static void saysHowManyAreOdd() {
        Check.sentence("It STRIKES: ODD: how many PLACES are not RIGHT then");
        Used x = Used.of(Texts.FOUR);
        Check.due("all stay", x.strike(), 0);
        x.send(0, 1);
        Check.due("one goes", x.strike(), 2);
        x.send(1, 1);
        Check.due("another goes, too", x.strike(), 0);
        x.send(0, 2);
        x.send(2, 0);
        Check.due("three places: 1, 2, 1", x.strike(), 2);
        Check.due("all stay", x.strike(), 2);
    }

    private static void goesOnToEight() {
        Check.sentence("(STROKES go on from 1 to 8 at most)");
        Used x = Used.of("place a;person p at a hire 0;");
        for (int stroke = 1; stroke <= 8; stroke++) {
            Check.due("strike", x.strike(), 1);
            Check.due("the stroke", x.about(8), stroke);
            Check.due("in all", x.about(9), stroke);
        }
    }

    private static void isNoneBehindEight() {
        Check.sentence("NONE if there were 8");
        for (String town : new String[] {"", "place a;strokes 1;", "place a;strokes 8;person p at a hire 0;"}) {
            Used x = Used.of(town);
            for (int stroke = 1; stroke <= 8; stroke++) {
                Check.due("strike " + stroke, x.strike() >= 0, true);
            }
            Check.due("the ninth", x.strike(), NONE);
            Check.due("the tenth", x.strike(), NONE);
        }
    }

    private static void doesNothingWhenRefused() {
        Check.sentence("NONE, doing nothing");
        Used x = Used.of(Texts.FOUR);
        x.send(0, 1);
        for (int stroke = 1; stroke <= 8; stroke++) {
            x.strike();
        }
        x.send(1, 1);
        String before = Seen.of(x);
        Check.due("the ninth", x.strike(), NONE);
        Seen.same("behind it", x, before);
        Check.due("stroke", x.about(8), 8);
        Check.due("odd", x.about(9), 16);
        Check.due("nobody has gone", x.where(1), 0);
        Check.due("image", x.image(0), 8);
    }

    private static void looksAtTheStroke() {
        Check.sentence("RIGHT then: at that STROKE");
        Used x = Used.of("place a;place b;rule stroke = 2 or stroke = 8 and place = 1;");
        int[] odd = {2, 0, 2, 2, 2, 2, 2, 1};
        for (int stroke = 1; stroke <= 8; stroke++) {
            Check.due("stroke " + stroke, x.strike(), odd[stroke - 1]);
        }
        Check.due("in all", x.about(9), 13);
    }

    private static void goesOnBehindTheToldStrokes() {
        Check.sentence("(STROKES go on from 1 to 8): whatever strokes is told");
        Used x = Used.of("place a;strokes 1;rule stroke < 3;");
        Check.due("1 of 1", x.strike(), 0);
        Check.due("2 of 1", x.strike(), 0);
        Check.due("3 of 1", x.strike(), 1);
        Check.due("the stroke", x.about(8), 3);
    }

    private static void looksAtEmptyPlaces() {
        Check.sentence("not RIGHT: told empty, and one is there");
        Used x = Used.of("place a;place b empty;way a b minutes 1;rule 1;" + Texts.persons(2, 0));
        Check.due("nobody", x.strike(), 0);
        x.send(0, 1);
        Check.due("one", x.strike(), 1);
        x.send(1, 1);
        Check.due("two", x.strike(), 1);
    }

    private static void looksAtTownsWithoutPlacesOrPersons() {
        Check.sentence("how many PLACES are not RIGHT: of none, with nobody");
        Check.due("no place", new Used().strike(), 0);
        Check.due("nobody", Used.of(Texts.SIX_PLACES).strike(), 0);
        Check.due("nobody, and all are odd", Used.of(Texts.SIX_PLACES + "rule here;").strike(), 6);
    }

    private static void looksAtAllPlaces() {
        Check.sentence("how many PLACES are not RIGHT: the first, the last, all");
        Used x = Used.of(Texts.SIX_PLACES + Texts.allWays(1) + Texts.persons(5, 0));
        Check.due("five at the first", x.strike(), 1);
        for (int person = 1; person < 5; person++) {
            x.send(person, 1 + person);
        }
        Check.due("one at each but b", x.strike(), 5);
        for (int person = 0; person < 5; person++) {
            x.send(person, 5);
        }
        Check.due("five at the last", x.strike(), 1);
    }

    private static void goesOnFromABox() {
        Check.sentence("NONE if there were 8: as it was kept there were fewer");
        Used x = Used.of("place a;rule stroke < 8;");
        for (int stroke = 1; stroke <= 7; stroke++) {
            x.strike();
        }
        x.image(0);
        Check.due("the eighth", x.strike(), 1);
        Check.due("the ninth", x.strike(), NONE);
        x.back(0);
        Check.due("the eighth again", x.strike(), 1);
        Check.due("the ninth", x.strike(), NONE);
        Check.due("in all", x.about(9), 1);
    }

    private Promise21StrikeTest() {
    }
}
