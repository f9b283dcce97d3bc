/** Promise 2: feed. */
final class Promise02FeedTest {
    private static final int NONE = EvenTown.NONE;
    private static final int BLANKS = 0x20202020;
    private static final int JUNK = 0x23232323;

    public static void main(String[] args) {
        Check.promise(2, "feed");
        saysHowManyThereAre();
        takesTheHighestFirst();
        takesBytesOfAllKinds();
        comesBehindWhatIsThere();
        fillsTheTapeUp();
        refusesWhatIsTooMuch();
        bringsNothingWhenRefused();
        isTakenAgainBehindARefusal();
        Check.close();
    }

    private static int blanks(Used x) {
        return x.feed(BLANKS, BLANKS, BLANKS, BLANKS, BLANKS);
    }

    private static int junk(Used x) {
        return x.feed(JUNK, JUNK, JUNK, JUNK, JUNK);
    }

    /** 1,600 blanks, as far as no end cuts them off. */
    private static Used full() {
        Used x = new Used();
        for (int i = 0; i < 80; i++) {
            blanks(x);
        }
        return x;
    }

    private static void saysHowManyThereAre() {
        Check.sentence("Twenty bytes come behind those on the TAPE: how many there are");
        Used x = new Used();
        for (int i = 1; i <= 80; i++) {
            Check.due("feed", blanks(x), 20 * i);
            Check.due("about 7", x.about(7), 20 * i);
        }
    }

    private static void takesTheHighestFirst() {
        Check.sentence("of each number the highest first");
        Used x = new Used();
        // "place a;place bcdef;"
        x.feed(0x706c6163, 0x6520613b, 0x706c6163, 0x65206263, 0x6465663b);
        // "way a bcdef minutes "
        x.feed(0x77617920, 0x61206263, 0x64656620, 0x6d696e75, 0x74657320);
        // "987;strokes 1;      "
        x.feed(0x3938373b, 0x7374726f, 0x6b657320, 0x313b2020, BLANKS);
        Check.due("town", x.town(), 0);
        Check.due("places", x.about(0), 2);
        Check.due("minutes", x.minutes(0, 1), 987);
        Check.due("strokes", x.about(12), 1);
    }

    /** A byte of 128 and more among blanks is a fault just where it stands. */
    private static void takesBytesOfAllKinds() {
        Check.sentence("of each number: negative ones, too");
        for (int at = 0; at < 20; at++) {
            for (int sign : new int[] {0, 127, 128, 200, 255}) {
                int[] five = {BLANKS, BLANKS, BLANKS, BLANKS, BLANKS};
                int shift = 24 - 8 * (at % 4);
                five[at / 4] = five[at / 4] & ~(255 << shift) | sign << shift;
                Used x = new Used();
                x.feed(five[0], five[1], five[2], five[3], five[4]);
                Check.due("a byte that is no token", x.town(), NONE);
                Check.due("its fault", x.fault(0), 1);
                Check.due("its place", x.fault(1), at);
            }
        }
        Used x = new Used();
        Check.due("all of 255", x.feed(-1, -1, -1, -1, -1), 20);
        x.town();
        Check.due("the first", x.fault(1), 0);
    }

    private static void comesBehindWhatIsThere() {
        Check.sentence("come behind those on the TAPE");
        Used x = new Used();
        x.tape("place a;###");
        x.end(8);
        x.tape("place b;");
        Check.due("bytes", x.about(7), 16);
        x.town();
        Check.due("places", x.about(0), 2);
        x.tape("place c;");
        Check.due("behind a town the tape is new", x.about(7), 8);
        x.town();
        Check.due("places", x.about(0), 1);
    }

    private static void fillsTheTapeUp() {
        Check.sentence("not more than 1,600");
        Used x = full();
        Check.due("full", x.about(7), 1600);
        x.end(1580);
        Check.due("1,580 and 20", blanks(x), 1600);
        x.end(0);
        Check.due("0 and 20", blanks(x), 20);
    }

    private static void refusesWhatIsTooMuch() {
        Check.sentence("NONE if there would be more than 1,600");
        Used x = full();
        Check.due("1,600 and 20", blanks(x), NONE);
        for (int n = 1599; n > 1580; n--) {
            x.end(n);
            Check.due(n + " and 20", blanks(x), NONE);
        }
        x.end(1580);
        Check.due("1,580 and 20", blanks(x), 1600);
    }

    private static void bringsNothingWhenRefused() {
        Check.sentence("and nothing comes");
        Used x = full();
        junk(x);
        Check.due("full", x.about(7), 1600);
        x.end(1590);
        junk(x);
        Check.due("1,590 still", x.about(7), 1590);
        Check.due("not even some of it", x.end(1591), NONE);
        Check.due("a town of blanks", x.town(), 0);
        Check.due("its fault", x.fault(0), 0);
    }

    private static void isTakenAgainBehindARefusal() {
        Check.sentence("NONE, and nothing comes: what is there stays");
        Used x = full();
        junk(x);
        x.end(0);
        x.tape("place a;");
        junk(x);
        x.end(8);
        Check.due("town", x.town(), 0);
        Check.due("places", x.about(0), 1);
    }

    private Promise02FeedTest() {
    }
}
