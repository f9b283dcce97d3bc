/** Promise 23: untell. */
final class Promise23UntellTest {
    public static void main(String[] args) {
        Check.promise(23, "untell");
        isTrueOnce();
        isFalseOfNoneSuch();
        doesNothingWhenRefused();
        isAtTheTime();
        isAtTheSameTime();
        leavesTheOthers();
        isOfTheLastOfForty();
        Check.close();
    }

    private static void isTrueOnce() {
        Check.sentence("It is UNTOLD: true; false if it is so already");
        Used x = Used.of(Texts.FOUR);
        x.count(1, 2, 2);
        x.count(1, 0, 2);
        Check.due("the second", x.untell(1), true);
        Check.due("again", x.untell(1), false);
        Check.due("the first", x.untell(0), true);
        Check.due("again", x.untell(0), false);
        x.later(5);
        Check.due("later again", x.untell(0), false);
        Check.due("later again", x.untell(1), false);
    }

    private static void isFalseOfNoneSuch() {
        Check.sentence("false if there is none such");
        Used x = Used.of(Texts.FOUR);
        Check.due("0 of none", x.untell(0), false);
        x.count(1, 2, 2);
        Check.due("1 of one", x.untell(1), false);
        Check.due("-1", x.untell(-1), false);
        Check.due("39", x.untell(39), false);
        Check.due("40", x.untell(40), false);
        for (int count : Texts.NO_INDEX) {
            Check.due("count " + count, x.untell(count), false);
        }
        Check.due("0 of one", x.untell(0), true);
        x.town(Texts.FOUR);
        Check.due("0 of another town", x.untell(0), false);
    }

    private static void doesNothingWhenRefused() {
        Check.sentence("false if it is so already: UNTOLD at the TIME at which it was");
        Used x = Used.of(Texts.FOUR);
        x.count(1, 2, 2);
        x.later(5);
        x.untell(0);
        x.later(5);
        x.untell(0);
        x.untell(1);
        x.untell(-1);
        Check.due("at 4", x.states(1, 4), 2);
        Check.due("at 5", x.states(1, 5), 10);
        Check.due("at 9", x.states(1, 9), 10);
        Check.due("at 10", x.states(1, 10), 10);
        Check.due("counts", x.about(5), 1);
    }

    private static void isAtTheTime() {
        Check.sentence("not UNTOLD at k or before");
        Used x = Used.of(Texts.FOUR);
        x.later(10);
        x.count(1, 2, 2);
        x.later(10);
        x.untell(0);
        Check.due("at 9", x.states(1, 9), 10);
        Check.due("at 10", x.states(1, 10), 2);
        Check.due("at 19", x.states(1, 19), 2);
        Check.due("at 20", x.states(1, 20), 10);
        Check.due("at 21", x.states(1, 21), 10);
    }

    private static void isAtTheSameTime() {
        Check.sentence("UNTOLD at a later one or the same");
        Used x = Used.of(Texts.FOUR);
        x.later(10);
        x.count(1, 2, 2);
        Check.due("at once", x.untell(0), true);
        for (int k = 9; k <= 11; k++) {
            Check.due("never known", x.states(1, k), 10);
        }
        x = Used.of(Texts.FOUR);
        x.count(1, 2, 2);
        x.untell(0);
        Check.due("at 0", x.states(1, 0), 10);
    }

    private static void leavesTheOthers() {
        Check.sentence("It is UNTOLD: none but it");
        Used x = Used.of(Texts.FOUR);
        x.count(1, 2, 2);
        x.count(1, 0, 2);
        x.count(1, 1, 0);
        Check.due("all", x.states(1, 0), 1);
        x.untell(1);
        Check.due("two", x.states(1, 0), 1);
        x.untell(2);
        Check.due("the first", x.states(1, 0), 2);
        Check.due("numbers stay", x.count(1, 0, 2), 3);
        Check.due("about 5", x.about(5), 4);
    }

    private static void isOfTheLastOfForty() {
        Check.sentence("It is UNTOLD: the 40th");
        Used x = Used.of(Texts.FOUR);
        for (int i = 0; i < 39; i++) {
            x.count(8, 0, 5);
        }
        x.count(1, 2, 2);
        Check.due("the 40th counts", x.states(1, 0), 2);
        Check.due("the 40th", x.untell(39), true);
        Check.due("it counts no more", x.states(1, 0), 10);
        Check.due("again", x.untell(39), false);
    }

    private Promise23UntellTest() {
    }
}
