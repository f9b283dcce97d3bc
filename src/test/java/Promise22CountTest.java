/** Promise 22: count. */
final class Promise22CountTest {
    private static final int NONE = EvenTown.NONE;

    public static void main(String[] args) {
        Check.promise(22, "count");
        isNumberedAsTold();
        isNoneOfNoStroke();
        isNoneOfNoPlace();
        isNoneOfTooMany();
        isNoneBehindForty();
        doesNothingWhenRefused();
        isTakenBehindTheLastStroke();
        isTakenOfMoreThanThereAre();
        isToldAtTheTime();
        isTakenTwice();
        isNoneAnewInAnotherTown();
        Check.close();
    }

    private static void isNumberedAsTold() {
        Check.sentence("A COUNT: its number");
        Used x = Used.of(Texts.FOUR);
        for (int i = 0; i < 40; i++) {
            Check.due("count", x.count(1 + i % 8, i % 3, i % 6), i);
            Check.due("about 5", x.about(5), i + 1);
        }
    }

    private static void isNoneOfNoStroke() {
        Check.sentence("at a STROKE (1 .. 8); NONE if one can't be");
        Used x = Used.of(Texts.FOUR);
        Check.due("0", x.count(0, 0, 0), NONE);
        Check.due("9", x.count(9, 0, 0), NONE);
        Check.due("-1", x.count(-1, 0, 0), NONE);
        for (int stroke : Texts.NO_INDEX) {
            Check.due("stroke " + stroke, x.count(stroke, 0, 0), NONE);
        }
        Check.due("1", x.count(1, 0, 0), 0);
        Check.due("8", x.count(8, 0, 0), 1);
    }

    private static void isNoneOfNoPlace() {
        Check.sentence("at a PLACE; NONE if one can't be");
        Used x = Used.of(Texts.FOUR);
        Check.due("3", x.count(1, 3, 0), NONE);
        Check.due("-1", x.count(1, -1, 0), NONE);
        for (int place : Texts.NO_INDEX) {
            Check.due("place " + place, x.count(1, place, 0), NONE);
        }
        Check.due("0", x.count(1, 0, 0), 0);
        Check.due("2", x.count(1, 2, 0), 1);
        x = Used.of(Texts.SIX_PLACES);
        Check.due("6", x.count(1, 6, 0), NONE);
        Check.due("5", x.count(1, 5, 0), 0);
        Check.due("of none", new Used().count(1, 0, 0), NONE);
    }

    private static void isNoneOfTooMany() {
        Check.sentence("so many (0 .. 5); NONE if one can't be");
        Used x = Used.of(Texts.FOUR);
        Check.due("6", x.count(1, 0, 6), NONE);
        Check.due("-1", x.count(1, 0, -1), NONE);
        for (int many : Texts.NO_INDEX) {
            Check.due("many " + many, x.count(1, 0, many), NONE);
        }
        Check.due("0", x.count(1, 0, 0), 0);
        Check.due("5", x.count(1, 0, 5), 1);
    }

    private static void isNoneBehindForty() {
        Check.sentence("COUNTS, 40 at most; NONE if there are 40");
        Used x = Used.of(Texts.FOUR);
        for (int i = 0; i < 39; i++) {
            x.count(1, 2, 2);
        }
        Check.due("the 40th", x.count(1, 2, 2), 39);
        Check.due("the 41st", x.count(1, 2, 2), NONE);
        Check.due("the 42nd", x.count(1, 2, 2), NONE);
        Check.due("about 5", x.about(5), 40);
        Check.due("the 40th is one", x.untell(39), true);
        Check.due("there are 40 still", x.count(1, 2, 2), NONE);
    }

    private static void doesNothingWhenRefused() {
        Check.sentence("NONE, doing nothing");
        Used x = Used.of(Texts.FOUR);
        x.count(1, 2, 2);
        String before = Seen.of(x);
        x.count(0, 0, 1);
        x.count(9, 0, 1);
        x.count(1, 3, 1);
        x.count(1, -1, 1);
        x.count(1, 0, 6);
        x.count(1, 0, -1);
        Seen.same("behind refusals", x, before);
        Check.due("the next one's number", x.count(1, 2, 2), 1);
        for (int i = 2; i < 40; i++) {
            x.count(1, 2, 2);
        }
        x.count(1, 0, 1);
        Check.due("the 41st does not count", x.states(1, 0), 2);
        Check.due("nor is it one", x.untell(40), false);
    }

    private static void isTakenBehindTheLastStroke() {
        Check.sentence("at a STROKE (1 .. 8): whatever strokes is told");
        Used x = Used.of(Texts.FOUR);
        Check.due("3 of 2", x.count(3, 0, 5), 0);
        Check.due("8 of 2", x.count(8, 0, 5), 1);
        Check.due("they do not count", x.states(1, 0), 10);
    }

    private static void isTakenOfMoreThanThereAre() {
        Check.sentence("there were so many (0 .. 5): whatever PERSONS there are");
        Used x = Used.of("place a;");
        Check.due("5 of none", x.count(1, 0, 5), 0);
        Check.due("no plan agrees", x.states(1, 0), 0);
    }

    private static void isToldAtTheTime() {
        Check.sentence("TOLD at a TIME (0 at first, goes on)");
        Used x = Used.of(Texts.FOUR);
        x.count(1, 2, 2);
        Check.due("at 0", x.states(1, 0), 2);
        Check.due("ahead of 0", x.states(1, -1), 10);
        x.later(1000);
        x.count(1, 0, 2);
        Check.due("ahead of 1000", x.states(1, 999), 2);
        Check.due("at 1000", x.states(1, 1000), 1);
    }

    private static void isTakenTwice() {
        Check.sentence("A COUNT: its number: a like one has its own");
        Used x = Used.of(Texts.FOUR);
        Check.due("the first", x.count(1, 2, 2), 0);
        Check.due("the like one", x.count(1, 2, 2), 1);
        x.untell(0);
        Check.due("the like one counts still", x.states(1, 0), 2);
        Check.due("one against it", x.count(1, 2, 0), 2);
        Check.due("none agrees", x.states(1, 0), 0);
    }

    private static void isNoneAnewInAnotherTown() {
        Check.sentence("COUNTS are none then");
        Used x = Used.of(Texts.FOUR);
        for (int i = 0; i < 40; i++) {
            x.count(1, 2, 2);
        }
        x.untell(0);
        x.town(Texts.FOUR);
        Check.due("about 5", x.about(5), 0);
        Check.due("the first again", x.count(2, 2, 2), 0);
        Check.due("that of before does not count", x.states(1, 0), 9);
        Check.due("it counts, untold though one of its number was", x.states(2, 0), 12);
        Check.due("untell", x.untell(0), true);
        Check.due("no more", x.states(2, 0), 21);
    }

    private Promise22CountTest() {
    }
}
