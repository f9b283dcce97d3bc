/** Promise 24: later. */
final class Promise24LaterTest {
    private static final int NONE = EvenTown.NONE;

    public static void main(String[] args) {
        Check.promise(24, "later");
        isTheTime();
        isByZeroTo1000();
        doesNothingWhenRefused();
        isUpTo100000();
        isNoneBeyond100000();
        goesOnOverTowns();
        Check.close();
    }

    /** A hundred times 1,000. */
    private static Used late() {
        Used x = new Used();
        for (int i = 0; i < 100; i++) {
            x.later(1000);
        }
        return x;
    }

    private static void isTheTime() {
        Check.sentence("So much later: the TIME (0 at first, goes on)");
        Used x = new Used();
        Check.due("at first", x.about(6), 0);
        Check.due("1", x.later(1), 1);
        Check.due("7", x.later(7), 8);
        Check.due("about 6", x.about(6), 8);
    }

    private static void isByZeroTo1000() {
        Check.sentence("(0 .. 1000); NONE for another number");
        Used x = new Used();
        Check.due("0", x.later(0), 0);
        Check.due("1000", x.later(1000), 1000);
        Check.due("0 again", x.later(0), 1000);
        Check.due("1001", x.later(1001), NONE);
        Check.due("-1", x.later(-1), NONE);
        for (int by : Texts.FAR_OFF) {
            Check.due("by " + by, x.later(by), NONE);
        }
    }

    private static void doesNothingWhenRefused() {
        Check.sentence("NONE, doing nothing");
        Used x = new Used();
        x.later(50);
        x.later(-1);
        Check.due("behind -1", x.about(6), 50);
        x.later(1001);
        Check.due("behind 1001", x.about(6), 50);
        x.later(Integer.MAX_VALUE);
        Check.due("behind the most", x.later(1), 51);
        x = late();
        x.later(1000);
        Check.due("behind too late", x.about(6), 100000);
    }

    private static void isUpTo100000() {
        Check.sentence("not above 100,000");
        Used x = late();
        Check.due("a hundred times 1000", x.about(6), 100000);
        Check.due("0", x.later(0), 100000);
        x = new Used();
        for (int i = 1; i <= 99; i++) {
            Check.due("later", x.later(1000), 1000 * i);
        }
        Check.due("99,500", x.later(500), 99500);
        Check.due("100,001 is too late", x.later(501), NONE);
        Check.due("100,000", x.later(500), 100000);
    }

    private static void isNoneBeyond100000() {
        Check.sentence("NONE if it would be above 100,000");
        Used x = late();
        Check.due("1", x.later(1), NONE);
        Check.due("1000", x.later(1000), NONE);
        Check.due("about 6", x.about(6), 100000);
        x.town("place a;");
        Check.due("told at the last time", x.count(1, 0, 1), 0);
        Check.due("known then", x.states(1, 100000), 0);
        Check.due("not ahead", x.states(1, 99999), 1);
    }

    private static void goesOnOverTowns() {
        Check.sentence("the TIME stays");
        Used x = new Used();
        x.later(5);
        x.town("place a;");
        Check.due("behind a town", x.about(6), 5);
        x.image(0);
        x.later(5);
        x.back(0);
        Check.due("behind a box", x.about(6), 10);
        x.strike();
        Check.due("behind a stroke", x.later(0), 10);
    }

    private Promise24LaterTest() {
    }
}
