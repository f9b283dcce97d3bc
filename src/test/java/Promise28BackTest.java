/** Promise 28: back. */
final class Promise28BackTest {
    private static final int NONE = EvenTown.NONE;

    public static void main(String[] args) {
        Check.promise(28, "back");
        isNoneWhenNothingWas();
        isNoneOfNoBox();
        doesNothingWhenRefused();
        isTheStroke();
        isAsItWasKept();
        isKeptOn();
        goesOnBehindTheLastStroke();
        isNoneInAnotherTown();
        isStillThereBehindAFault();
        sendsFromWhereAllWere();
        Check.close();
    }

    private static void isNoneWhenNothingWas() {
        Check.sentence("NONE if nothing was");
        Used x = Used.of(Texts.FOUR);
        for (int box = 0; box < 3; box++) {
            Check.due("box " + box, x.back(box), NONE);
            Check.due("a new object's", new Used().back(box), NONE);
        }
        x.image(1);
        Check.due("box 0", x.back(0), NONE);
        Check.due("box 1", x.back(1), 0);
        Check.due("box 2", x.back(2), NONE);
    }

    private static void isNoneOfNoBox() {
        Check.sentence("NONE if nothing was: there is no such BOX");
        Used x = Used.of(Texts.FOUR);
        for (int box = 0; box < 3; box++) {
            x.image(box);
        }
        Check.due("3", x.back(3), NONE);
        Check.due("-1", x.back(-1), NONE);
        for (int box : Texts.NO_INDEX) {
            Check.due("box " + box, x.back(box), NONE);
        }
    }

    private static void doesNothingWhenRefused() {
        Check.sentence("NONE, doing nothing");
        Used x = Used.of(Texts.FOUR);
        x.image(0);
        x.send(0, 1);
        x.strike();
        x.send(1, 1);
        String before = Seen.of(x);
        x.back(1);
        x.back(2);
        x.back(3);
        x.back(-1);
        Seen.same("behind refusals", x, before);
        Check.due("strike", x.strike(), 0);
        Check.due("who was sent goes", x.where(1), 1);
    }

    private static void isTheStroke() {
        Check.sentence("All is as it was kept: the STROKE");
        Used x = Used.of(Texts.FOUR);
        for (int stroke = 0; stroke < 8; stroke++) {
            x.image(0);
            x.strike();
            Check.due("back", x.back(0), stroke);
            Check.due("about 8", x.about(8), stroke);
            x.strike();
        }
        x.image(1);
        Check.due("at 8", x.back(1), 8);
    }

    private static void isAsItWasKept() {
        Check.sentence("All is as it was kept");
        Used x = Used.of(Texts.FOUR);
        x.send(0, 1);
        x.strike();
        x.send(2, 2);
        String before = Seen.of(x);
        x.image(2);
        x.send(2, 0);
        x.send(3, 2);
        x.strike();
        x.send(3, 1);
        Check.due("back", x.back(2), 1);
        Seen.same("back", x, before);
        x.strike();
        Check.due("who was sent then goes", x.where(2), 2);
        Check.due("who was not stays", x.where(3), 1);
    }

    private static void isKeptOn() {
        Check.sentence("as it was kept: again and again");
        Used x = Used.of(Texts.FOUR);
        x.send(0, 1);
        x.image(0);
        for (int again = 0; again < 3; again++) {
            x.strike();
            Check.due("there", x.where(0), 1);
            x.send(0, 2);
            x.strike();
            Check.due("further", x.where(0), 2);
            Check.due("back", x.back(0), 0);
            Check.due("home", x.where(0), 0);
            x.send(1, 1);
            Check.due("back", x.back(0), 0);
        }
        x.strike();
        Check.due("what was sent behind it is not kept", x.where(1), 0);
    }

    private static void goesOnBehindTheLastStroke() {
        Check.sentence("All is as it was kept: it strikes again");
        Used x = Used.of(Texts.FOUR);
        x.strike();
        x.image(0);
        for (int stroke = 2; stroke <= 8; stroke++) {
            x.strike();
        }
        Check.due("the ninth", x.strike(), NONE);
        Check.due("back", x.back(0), 1);
        Check.due("the second", x.strike(), 0);
        Check.due("about 8", x.about(8), 2);
    }

    private static void isNoneInAnotherTown() {
        Check.sentence("BOXES are empty then");
        Used x = Used.of(Texts.FOUR);
        for (int box = 0; box < 3; box++) {
            x.image(box);
        }
        x.town("place a;");
        for (int box = 0; box < 3; box++) {
            Check.due("box " + box, x.back(box), NONE);
        }
        x.image(0);
        Check.due("kept anew", x.back(0), 0);
        Check.due("the others are empty", x.back(1), NONE);
    }

    private static void isStillThereBehindAFault() {
        Check.sentence("a FAULT (all else stays)");
        Used x = Used.of(Texts.FOUR);
        x.strike();
        x.image(0);
        x.town("place");
        x.plan("place");
        Check.due("back", x.back(0), 1);
        x.plan("p b;");
        Check.due("behind a plan", x.back(0), 1);
    }

    private static void sendsFromWhereAllWere() {
        Check.sentence("All is as it was kept: where one GETS");
        Used x = Used.of(Texts.FOUR);
        x.image(0);
        x.send(0, 1);
        x.strike();
        Check.due("from b to c", x.send(0, 2), true);
        x.back(0);
        Check.due("from a to c", x.send(0, 2), false);
    }

    private Promise28BackTest() {
    }
}
