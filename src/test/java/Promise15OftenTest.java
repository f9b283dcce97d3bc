/** Promise 15: often. */
final class Promise15OftenTest {
    private static final int GAP = EvenTown.GAP;

    public static void main(String[] args) {
        Check.promise(15, "often");
        isByTwoToEight();
        isNoneOfAnotherWhat();
        cutsTheHour();
        isNoneWithoutAnHour();
        isNoneWithMoreThanEightStrokes();
        putsErrandsOff();
        leavesErrandsBehindTheLastThere();
        strikesWithTheRule();
        hiresAtEachStroke();
        isNoneWhenThereIsNone();
        leavesAllAsItWas();
        Check.close();
    }

    private static void often(String town, int n, int worth, int companions, int minutes) {
        Used x = Used.of(town);
        Check.due(n + " times by 0: " + town, x.often(n, 0), worth);
        Check.due(n + " times by 1: " + town, x.often(n, 1), companions);
        Check.due(n + " times by 2: " + town, x.often(n, 2), minutes);
    }

    private static void isByTwoToEight() {
        Check.sentence("OFTEN by n (2 .. 8)");
        Used x = Used.of("place a;strokes 1;");
        for (int n = 2; n <= 8; n++) {
            Check.due(n + " times", x.often(n, 0), 0);
        }
        for (int n : new int[] {1, 0, -1, -2, 9, 10}) {
            Check.due(n + " times", x.often(n, 0), GAP);
        }
        for (int n : Texts.NO_INDEX) {
            Check.due(n + " times", x.often(n, 0), GAP);
        }
    }

    private static void isNoneOfAnotherWhat() {
        Check.sentence("GAP for another what");
        Used x = Used.of("place a;strokes 1;");
        Check.due("what 3", x.often(2, 3), GAP);
        Check.due("what -1", x.often(2, -1), GAP);
        for (int what : Texts.NO_INDEX) {
            Check.due("what " + what, x.often(2, what), GAP);
        }
    }

    /** Told once, at stroke 1: twice as often there is one step more to get there. */
    private static void cutsTheHour() {
        Check.sentence("hour / n (cut)");
        String town = "place a;place b;way a b minutes 3;rule 1;strokes 1;person p at a hire 1;"
                + "errand p at b stroke 1 worth 50;hour ";
        often(town + "6;", 2, 49, 0, -3);
        often(town + "7;", 2, 49, 0, -3);
        often(town + "5;", 2, 0, GAP, GAP);
        often(town + "8;", 3, 0, GAP, GAP);
        often(town + "9;", 3, 49, 0, -3);
        often(town + "23;", 8, 0, GAP, GAP);
        often(town + "24;", 8, 49, 0, -3);
        often(town + "999;", 8, 49, 0, -3);
    }

    private static void isNoneWithoutAnHour() {
        Check.sentence("hour / n (none if that is 0)");
        for (int n = 2; n <= 8; n++) {
            often("place a;strokes 1;hour " + n + ";", n, 0, 0, 0);
            often("place a;strokes 1;hour " + (n - 1) + ";", n, GAP, GAP, GAP);
            often("place a;strokes 1;hour 1;", n, GAP, GAP, GAP);
        }
        often("strokes 1;hour 1;", 2, GAP, GAP, GAP);
    }

    private static void isNoneWithMoreThanEightStrokes() {
        Check.sentence("strokes * n (none if more than 8)");
        for (int strokes = 1; strokes <= 8; strokes++) {
            for (int n = 2; n <= 8; n++) {
                int due = strokes * n <= 8 ? 0 : GAP;
                often("place a;strokes " + strokes + ";", n, due, due, due);
            }
        }
    }

    private static void putsErrandsOff() {
        Check.sentence("ERRANDS at STROKE * n");
        String town = "place a;place b;way a b minutes 10;rule 1;strokes 2;hour 40;person p at a hire 1;";
        often(town + "errand p at b stroke 1 worth 50;", 4, 49, 0, -10);
        often(town + "errand p at b stroke 2 worth 50;", 4, 49, 0, -10);
        often(town + "errand p at b stroke 1 worth 50;errand p at a stroke 2 worth 50;", 2, 99, 0, -20);
        String late = "place a;place b;place c;place d;place e;way a b minutes 10;way b c minutes 10;way c d minutes 10;"
                + "way d e minutes 10;rule 1;strokes 1;person p at a hire 1;errand p at e stroke 1 worth 50;hour ";
        often(late + "40;", 4, 46, -3, -40);
        often(late + "30;", 3, 0, GAP, GAP);
        often(late + "20;", 2, 0, GAP, GAP);
    }

    private static void leavesErrandsBehindTheLastThere() {
        Check.sentence("ERRANDS at STROKE * n: one behind the last can't be done");
        String town = "place a;rule 1;strokes 2;person p at a hire 1;";
        often(town + "errand p at a stroke 2 worth 50;", 4, 50, 0, 0);
        often(town + "errand p at a stroke 3 worth 50;", 2, 0, GAP, GAP);
        often(town + "errand p at a stroke 4 worth 50;", 2, 0, GAP, GAP);
        often(town + "errand p at a stroke 3 worth 50;", 4, 0, GAP, GAP);
        often(town + "errand p at a stroke 8 worth 50;", 4, 0, GAP, GAP);
    }

    private static void strikesWithTheRule() {
        Check.sentence("BEST with strokes * n: the rule's stroke goes on");
        often("place a;strokes 4;rule stroke < 8;", 2, GAP, GAP, GAP);
        often("place a;strokes 4;rule stroke < 9;", 2, 0, 0, 0);
        often("place a;strokes 2;rule stroke < 7;", 3, 0, 0, 0);
        often("place a;strokes 2;rule stroke < 6;", 3, GAP, GAP, GAP);
        often("place a;strokes 1;rule not stroke = 2;", 2, GAP, GAP, GAP);
        often("place a;strokes 1;rule not stroke = 3;", 2, 0, 0, 0);
    }

    private static void hiresAtEachStroke() {
        Check.sentence("BEST with strokes * n: hire for each STROKE AWAY");
        String town = "place a empty;place b;way a b minutes 5;rule 1;strokes 1;person p at a hire 10;";
        often(town, 2, -20, -2, -5);
        often(town, 8, -80, -8, -5);
    }

    private static void isNoneWhenThereIsNone() {
        Check.sentence("GAP likewise");
        often("place a;strokes 1;person p at a hire 0;", 2, GAP, GAP, GAP);
        often("place a;rule 0;strokes 1;", 8, GAP, GAP, GAP);
        often(Texts.FOUR, 2, 0, GAP, GAP);
        often(Texts.FOUR, 4, 0, GAP, GAP);
        often(Texts.FOUR, 5, GAP, GAP, GAP);
    }

    private static void leavesAllAsItWas() {
        Check.sentence("BEST with hour / n: it is asked, not done");
        Used x = Used.of(Texts.FOUR);
        String before = Seen.of(x);
        for (int what = 0; what < 3; what++) {
            x.often(2, what);
            x.often(8, what);
        }
        Seen.same("behind often", x, before);
    }

    private Promise15OftenTest() {
    }
}
