/** Promise 3: end. */
final class Promise03EndTest {
    private static final int NONE = EvenTown.NONE;

    public static void main(String[] args) {
        Check.promise(3, "end");
        keepsTheFirst();
        takesNoneAndAll();
        refusesMoreThanThereAre();
        refusesBelowZero();
        doesNothingWhenRefused();
        forgetsWhatItCuts();
        readsNothingBehindTheEnd();
        endsAnEmptyTape();
        endsAFullTape();
        Check.close();
    }

    private static void keepsTheFirst() {
        Check.sentence("The TAPE has its first n bytes: n");
        Used x = new Used();
        x.tape("place a;place b;####");
        Check.due("end 16", x.end(16), 16);
        Check.due("about 7", x.about(7), 16);
        Check.due("end 8", x.end(8), 8);
        Check.due("about 7", x.about(7), 8);
        x.town();
        Check.due("places", x.about(0), 1);
    }

    private static void takesNoneAndAll() {
        Check.sentence("n: 0, and all");
        Used x = new Used();
        x.tape("place a;place b;    ");
        Check.due("all", x.end(20), 20);
        Check.due("all are there", x.about(7), 20);
        Check.due("none", x.end(0), 0);
        Check.due("none is there", x.about(7), 0);
        Check.due("none of none", x.end(0), 0);
    }

    private static void refusesMoreThanThereAre() {
        Check.sentence("NONE if it has not so many");
        Used x = new Used();
        x.tape("place a;place b;    ");
        Check.due("one more", x.end(21), NONE);
        Check.due("as many as there could be", x.end(1600), NONE);
        x.end(7);
        Check.due("one more than are left", x.end(8), NONE);
        for (int n : Texts.FAR_OFF) {
            Check.due("end " + n, x.end(n), NONE);
        }
    }

    private static void refusesBelowZero() {
        Check.sentence("NONE if n is below 0");
        Used x = new Used();
        Check.due("of none", x.end(-1), NONE);
        x.tape("place a;");
        Check.due("of eight", x.end(-1), NONE);
        Check.due("of eight", x.end(-8), NONE);
        Check.due("of eight", x.end(Integer.MIN_VALUE), NONE);
    }

    private static void doesNothingWhenRefused() {
        Check.sentence("NONE, doing nothing");
        Used x = new Used();
        x.tape("place a;place b;");
        x.end(17);
        Check.due("behind too many", x.about(7), 16);
        x.end(-1);
        Check.due("behind too few", x.about(7), 16);
        x.town();
        Check.due("places", x.about(0), 2);
    }

    private static void forgetsWhatItCuts() {
        Check.sentence("The TAPE has its first n bytes: the others are gone");
        Used x = new Used();
        x.tape("place a;place b;    ");
        x.end(5);
        Check.due("longer again", x.end(6), NONE);
        x.end(0);
        Check.due("longer again", x.end(1), NONE);
        Check.due("a town of no text", x.town(), 0);
        Check.due("no places", x.about(0), 0);
    }

    private static void readsNothingBehindTheEnd() {
        Check.sentence("The TAPE has its first n bytes: a text ends there");
        faultOfCut("hours;", 4, 2, 4);
        faultOfCut("hour 55;", 6, 2, 6);
        faultOfCut("rule 12345;", 9, 2, 9);
        faultOfCut("hour 5a;", 6, 2, 6);
        faultOfCut("place abcdefghi;", 14, 2, 14);
        faultOfCut("place a  ;", 8, 2, 8);
        faultOfCut("place a;?", 8, 0, NONE);
        faultOfCut("place a;#place b;", 8, 0, NONE);
        Used x = new Used();
        x.town("hourhourhourhourhourhour");
        Check.due("a shorter text behind a longer one", x.town("hour"), NONE);
        Check.due("its place", x.fault(1), 4);
    }

    private static void faultOfCut(String text, int n, int kind, int at) {
        Used x = new Used();
        x.tape(text);
        x.end(n);
        x.town();
        Check.due("fault of the first " + n + " of " + text, x.fault(0), kind);
        Check.due("its place", x.fault(1), at);
    }

    private static void endsAnEmptyTape() {
        Check.sentence("NONE if it has not so many: an empty TAPE has none");
        Used x = new Used();
        Check.due("end 1", x.end(1), NONE);
        Check.due("end 0", x.end(0), 0);
        x.town("place a;");
        Check.due("behind a town", x.end(1), NONE);
        x.plan("?");
        Check.due("behind a plan's fault", x.end(1), NONE);
    }

    private static void endsAFullTape() {
        Check.sentence("The TAPE has its first n bytes: of 1,600");
        Used x = new Used();
        for (int i = 0; i < 80; i++) {
            x.feed(0x20202020, 0x20202020, 0x20202020, 0x20202020, 0x20202020);
        }
        Check.due("1,601", x.end(1601), NONE);
        Check.due("1,600", x.end(1600), 1600);
        Check.due("1,599", x.end(1599), 1599);
        Check.due("1,600 again", x.end(1600), NONE);
    }

    private Promise03EndTest() {
    }
}
