/** Promise 27: image. */
final class Promise27ImageTest {
    private static final int NONE = EvenTown.NONE;

    public static void main(String[] args) {
        Check.promise(27, "image");
        isTheStroke();
        isNoneOfNoBox();
        doesNothingWhenRefused();
        keepsWhereAllAre();
        keepsWhoIsSent();
        keepsStrokeAndOdd();
        keepsEachBoxForItself();
        comesOverAnOlderOne();
        leavesAllAsItWas();
        keepsNothingElse();
        Check.close();
    }

    private static void isTheStroke() {
        Check.sentence("kept in a BOX 0 .. 2: the STROKE");
        Used x = Used.of(Texts.FOUR);
        Check.due("at first", x.image(0), 0);
        for (int stroke = 1; stroke <= 8; stroke++) {
            x.strike();
            Check.due("box 0", x.image(0), stroke);
            Check.due("box 1", x.image(1), stroke);
            Check.due("box 2", x.image(2), stroke);
        }
        Check.due("a new object", new Used().image(2), 0);
    }

    private static void isNoneOfNoBox() {
        Check.sentence("NONE if there is none such");
        Used x = Used.of(Texts.FOUR);
        Check.due("3", x.image(3), NONE);
        Check.due("-1", x.image(-1), NONE);
        for (int box : Texts.NO_INDEX) {
            Check.due("box " + box, x.image(box), NONE);
        }
    }

    private static void doesNothingWhenRefused() {
        Check.sentence("NONE if there is none such: nothing is kept");
        Used x = Used.of(Texts.FOUR);
        x.strike();
        x.image(3);
        x.image(-1);
        for (int box = -1; box <= 3; box++) {
            Check.due("back " + box, x.back(box), NONE);
        }
        Check.due("stroke", x.about(8), 1);
    }

    private static void keepsWhereAllAre() {
        Check.sentence("What is in earnest (where all are)");
        Used x = Used.of(Texts.SIX_PLACES + Texts.allWays(1) + Texts.persons(5, 0));
        for (int person = 0; person < 5; person++) {
            x.send(person, person + 1);
        }
        x.strike();
        x.image(0);
        for (int person = 0; person < 5; person++) {
            x.send(person, 0);
        }
        x.strike();
        x.back(0);
        for (int person = 0; person < 5; person++) {
            Check.due("person " + person, x.where(person), person + 1);
        }
    }

    private static void keepsWhoIsSent() {
        Check.sentence("who is SENT where");
        Used x = Used.of(Texts.SIX_PLACES + Texts.allWays(1) + Texts.persons(5, 0));
        for (int person = 0; person < 5; person++) {
            x.send(person, person + 1);
        }
        x.image(0);
        for (int person = 0; person < 5; person++) {
            x.send(person, 0);
        }
        x.image(1);
        x.strike();
        x.back(0);
        Check.due("not yet there", x.where(0), 0);
        x.strike();
        for (int person = 0; person < 5; person++) {
            Check.due("person " + person, x.where(person), person + 1);
        }
        x.back(1);
        x.strike();
        Check.due("sent to stay", x.where(4), 0);
    }

    private static void keepsStrokeAndOdd() {
        Check.sentence("the STROKE, how many were ODD in all");
        Used x = Used.of("place a;place b;rule stroke < 3;");
        x.strike();
        x.strike();
        x.strike();
        Check.due("image", x.image(1), 3);
        x.strike();
        Check.due("odd", x.about(9), 4);
        Check.due("back", x.back(1), 3);
        Check.due("stroke", x.about(8), 3);
        Check.due("odd", x.about(9), 2);
    }

    private static void keepsEachBoxForItself() {
        Check.sentence("in a BOX 0 .. 2");
        Used x = Used.of(Texts.FOUR);
        x.send(0, 1);
        for (int box = 0; box < 3; box++) {
            x.image(box);
            x.strike();
        }
        Check.due("box 2", x.back(2), 2);
        Check.due("odd in box 2", x.about(9), 4);
        Check.due("box 0", x.back(0), 0);
        Check.due("where in box 0", x.where(0), 0);
        Check.due("box 1", x.back(1), 1);
        Check.due("where in box 1", x.where(0), 1);
        Check.due("box 2 again", x.back(2), 2);
    }

    private static void comesOverAnOlderOne() {
        Check.sentence("is kept in a BOX: in place of what was");
        Used x = Used.of(Texts.FOUR);
        x.image(0);
        x.send(0, 1);
        x.strike();
        x.image(0);
        x.strike();
        Check.due("the later one", x.back(0), 1);
        Check.due("where", x.where(0), 1);
    }

    private static void leavesAllAsItWas() {
        Check.sentence("is kept: and goes on");
        Used x = Used.of(Texts.FOUR);
        x.send(0, 1);
        x.strike();
        x.send(1, 1);
        String before = Seen.of(x);
        x.image(0);
        Seen.same("behind an image", x, before);
        x.strike();
        Check.due("who was sent goes", x.where(1), 1);
    }

    private static void keepsNothingElse() {
        Check.sentence("What is in earnest: not COUNTS, the TIME, the TOLD PLAN, the TAPE, the TOWN");
        Used x = Used.of(Texts.FOUR);
        x.image(0);
        x.later(3);
        x.count(1, 2, 2);
        x.plan("p b c;q b c;");
        x.tape("place");
        x.back(0);
        Check.due("counts", x.about(5), 1);
        Check.due("time", x.about(6), 3);
        Check.due("tape", x.about(7), 5);
        Check.due("the plan", x.value(0), 3);
        Check.due("states", x.states(1, 3), 2);
    }

    private Promise27ImageTest() {
    }
}
