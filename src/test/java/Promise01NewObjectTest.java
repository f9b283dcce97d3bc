/** Promise 1: a new object. */
final class Promise01NewObjectTest {
    private static final int NONE = EvenTown.NONE;
    private static final int GAP = EvenTown.GAP;

    public static void main(String[] args) {
        Check.promise(1, "a new object");
        constants();
        isEmpty();
        hasNoPlaceAndNoPerson();
        hasOneDay();
        hasHadNoFault();
        hasNothingOnTheTape();
        keepsNothing();
        standsAsAtFirst();
        sharesNothing();
        answersItsLastCall();
        Check.close();
    }

    private static void constants() {
        Check.sentence("NONE = -1, GAP = -1000000");
        Check.due("NONE", NONE, -1);
        Check.due("GAP", GAP, -1000000);
    }

    private static void isEmpty() {
        Check.sentence("An empty TOWN; (60, 3; even); TIME (0 at first); STROKE 0");
        Used x = new Used();
        int[] about = {0, 0, 0, 0, 0, 0, 0, 0, 0, 0, 0, 60, 3};
        for (int what = 0; what < about.length; what++) {
            Check.due("about " + what, x.about(what), about[what]);
        }
    }

    private static void hasNoPlaceAndNoPerson() {
        Check.sentence("An empty TOWN: no PLACE, no PERSON");
        Used x = new Used();
        Check.due("minutes", x.minutes(0, 0), NONE);
        Check.due("right", x.right(0, 0, 1), NONE);
        Check.due("bestAt", x.bestAt(0, 1, 0), NONE);
        Check.due("spare", x.spare(0, 0), GAP);
        Check.due("meet", x.meet(0, 1, 0), NONE);
        Check.due("where", x.where(0), NONE);
        Check.due("send", x.send(0, 0), false);
        Check.due("count", x.count(1, 0, 0), NONE);
        Check.due("sure", x.sure(0, 0, 1, 0), NONE);
        for (int what = 0; what < 3; what++) {
            Check.due("built", x.built(1, what, -1), GAP);
            Check.due("built", x.built(1, what, 0), GAP);
        }
    }

    private static void hasOneDay() {
        Check.sentence("An empty TOWN: the one PLAN there is");
        Used x = new Used();
        for (int what = 0; what < 3; what++) {
            Check.due("best", x.best(what), 0);
            Check.due("value", x.value(what), 0);
            Check.due("breaks", x.breaks(what, -1), 0);
            Check.due("breaks at", x.breaks(what, 0), 1);
            Check.due("often 2: 6 strokes", x.often(2, what), 0);
            Check.due("often 3: 9 strokes", x.often(3, what), GAP);
            Check.due("states", x.states(1 + what, 0), 1);
        }
        Check.due("judge", x.judge(0), 0);
        Check.due("judge 1", x.judge(1), NONE);
        Check.due("judge 2", x.judge(2), NONE);
        Check.due("states beyond", x.states(4, 0), NONE);
    }

    private static void hasHadNoFault() {
        Check.sentence("0: without; ahead of any, too");
        Used x = new Used();
        Check.due("fault", x.fault(0), 0);
        Check.due("its place", x.fault(1), NONE);
    }

    private static void hasNothingOnTheTape() {
        Check.sentence("(empty at first)");
        Used x = new Used();
        Check.due("end 1", x.end(1), NONE);
        Check.due("end 0", x.end(0), 0);
        Check.due("town", x.town(), 0);
        Check.due("plan", x.plan(), 0);
    }

    private static void keepsNothing() {
        Check.sentence("BOXES are empty, COUNTS are none");
        Used x = new Used();
        for (int box = 0; box < 3; box++) {
            Check.due("back", x.back(box), NONE);
        }
        Check.due("untell", x.untell(0), false);
    }

    private static void standsAsAtFirst() {
        Check.sentence("STROKE 0; nobody is odd");
        Used x = new Used();
        Check.due("mend", x.mend(), 0);
        for (int stroke = 1; stroke <= 8; stroke++) {
            Check.due("strike", x.strike(), 0);
            Check.due("about 8", x.about(8), stroke);
        }
        Check.due("the ninth", x.strike(), NONE);
    }

    private static void sharesNothing() {
        Check.sentence("An empty TOWN, whatever other objects are");
        Used other = Used.of(Texts.FOUR + "rule 1;");
        other.count(1, 0, 1);
        other.later(9);
        other.image(0);
        other.strike();
        other.tape("x");
        other.plan();
        other.tape("place");
        isEmpty();
        keepsNothing();
        hasHadNoFault();
        Used x = Used.of("place z;");
        Check.due("the other has its town", other.about(0), 3);
        Check.due("the other has its time", other.about(6), 9);
        Check.due("the other has its tape", other.about(7), 5);
        Check.due("the other has its rule", other.right(0, 1, 1), 1);
        Check.due("the new one has its rule", x.right(0, 1, 1), 0);
    }

    private static void answersItsLastCall() {
        Check.sentence("An object is used for at most 512 calls");
        Used x = new Used();
        for (int i = 0; i < 170; i++) {
            Check.due("later", x.later(5), 5 * i + 5);
            Check.due("town", x.town(), 0);
            Check.due("plan", x.plan(), 0);
        }
        Check.due("the 511th call", x.about(6), 850);
        Check.due("the 512th call", x.best(0), 0);
        Check.due("calls", x.calls(), 512);
    }

    private Promise01NewObjectTest() {
    }
}
