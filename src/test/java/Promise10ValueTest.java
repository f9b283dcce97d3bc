/** Promise 10: value. */
final class Promise10ValueTest {
    private static final int GAP = EvenTown.GAP;

    public static void main(String[] args) {
        Check.promise(10, "value");
        isByThree();
        isNoneWhenItDoesNotGo();
        isNoneWhenNotRight();
        isNoneBehindAnErrandNotDone();
        isWorthLessHire();
        isLessCompanions();
        isLessMinutes();
        isNoneWithAnErrandNotDone();
        isNoneWithAnErrandBehindTheLast();
        isNothingAtHome();
        isAtItsMost();
        isAtItsLeast();
        isOfTheToldPlanAlone();
        Check.close();
    }

    private static void valued(Used x, String plan, int worth, int companions, int minutes) {
        Check.due("a plan without a fault: " + plan, x.plan(plan) != EvenTown.NONE, true);
        Check.due("value 0 of " + plan, x.value(0), worth);
        Check.due("value 1 of " + plan, x.value(1), companions);
        Check.due("value 2 of " + plan, x.value(2), minutes);
    }

    private static void isByThree() {
        Check.sentence("GAP for another what");
        Used x = new Used();
        for (int what = 0; what < 3; what++) {
            Check.due("what " + what, x.value(what), 0);
        }
        Check.due("what 3", x.value(3), GAP);
        Check.due("what -1", x.value(-1), GAP);
        for (int what : Texts.NO_INDEX) {
            Check.due("what " + what, x.value(what), GAP);
        }
    }

    private static void isNoneWhenItDoesNotGo() {
        Check.sentence("GAP if it has none: it does not GO");
        Used x = Used.of(Texts.THREE + "rule 1;person p at a hire 0;person q at a hire 0;hour 50;");
        valued(x, "p b c b;", 0, -3, -130);
        valued(x, "p c;", GAP, GAP, GAP);
        valued(x, "p b c a;", GAP, GAP, GAP);
        valued(x, "q a b c;", 0, -2, -80);
        valued(x, "q a a c;", GAP, GAP, GAP);
    }

    private static void isNoneWhenNotRight() {
        Check.sentence("GAP if it has none: a PLACE is not RIGHT");
        Used x = Used.of("place a;place b;way a b minutes 1;person p at a hire 0;person q at a hire 0;");
        valued(x, "p a a b;q a a b;", 0, -2, -2);
        valued(x, "p a a b;", GAP, GAP, GAP);
        valued(x, "p b a;", GAP, GAP, GAP);
        x = Used.of("place a;place b empty;way a b minutes 1;person p at a hire 0;person q at a hire 0;");
        valued(x, "p a a b;q a a b;", GAP, GAP, GAP);
        valued(Used.of("place a;place b;rule place = 0 or stroke < 3;"), "", GAP, GAP, GAP);
        valued(Used.of("place a;place b;rule place = 0 or stroke < 4;"), "", 0, 0, 0);
    }

    private static void isNoneBehindAnErrandNotDone() {
        Check.sentence("GAP if it has none: it is LAWFUL at the first STROKES, where an ERRAND is not DONE");
        Used x = Used.of(Texts.THREE + "person p at a hire 0;person q at a hire 0;errand p at b stroke 1 worth 9;");
        valued(x, "", 0, GAP, GAP);
        valued(x, "p a b;", GAP, GAP, GAP);
        valued(x, "p a a b;", GAP, GAP, GAP);
        valued(x, "p a c;q a c;", GAP, GAP, GAP);
        valued(x, "p a a c;q a a c;", GAP, GAP, GAP);
        valued(x, "p a b c;q a b c;", 0, GAP, GAP);
    }

    private static void isWorthLessHire() {
        Check.sentence("0: worth of all ERRANDS DONE less hire of each PERSON for each STROKE AWAY");
        Used x = Used.of("place a;place b;way a b minutes 1;rule 1;person p at a hire 10;person q at b hire 1;"
                + "errand p at b stroke 1 worth 500;errand p at b stroke 1 worth 40;errand p at a stroke 1 worth 3;"
                + "errand q at b stroke 3 worth 100;");
        x.plan("");
        Check.due("two at home", x.value(0), 103);
        x.plan("p b a;");
        Check.due("two away, one at home", x.value(0), 630);
        x.plan("p b;");
        Check.due("three strokes away", x.value(0), 610);
        x.plan("p b;q a;");
        Check.due("both away", x.value(0), 507);
    }

    private static void isLessCompanions() {
        Check.sentence("A COMPANION: one AWAY at a STROKE without an ERRAND of theirs DONE there then");
        Used x = Used.of("place a;place b;way a b minutes 1;rule 1;person p at a hire 0;person q at a hire 0;"
                + "errand p at b stroke 2 worth 0;");
        valued(x, "p a b a;", 0, 0, -2);
        valued(x, "p b b b;", 0, -2, -1);
        valued(x, "p a b a;q a b a;", 0, -1, -4);
        valued(x, "p a b;q b;", 0, -4, -2);
    }

    private static void isLessMinutes() {
        Check.sentence("2: less MINUTES that all walk");
        Used x = Used.of("place a;place b;place c;way a b minutes 30;way b c minutes 20;way a c minutes 99;rule 1;"
                + "person p at a hire 0;person q at c hire 0;");
        valued(x, "", 0, 0, 0);
        valued(x, "p c a c;", 0, -2, -150);
        valued(x, "p c;q a;", 0, -6, -100);
        valued(x, "p b c;q c b;", 0, -5, -70);
    }

    private static void isNoneWithAnErrandNotDone() {
        Check.sentence("by 1 and 2 all ERRANDS must be DONE; others have none");
        Used x = Used.of(Texts.FOUR);
        valued(x, "", 0, GAP, GAP);
        valued(x, "p b c;q b c;", 3, -3, -160);
        valued(x, "p b;q b;", -6, GAP, GAP);
        x = Used.of("place a;place b;way a b minutes 1;rule 1;person p at a hire 0;"
                + "errand p at b stroke 1 worth 0;errand p at a stroke 1 worth 0;");
        valued(x, "p b a;", 0, GAP, GAP);
        valued(x, "", 0, GAP, GAP);
    }

    private static void isNoneWithAnErrandBehindTheLast() {
        Check.sentence("DONE (one behind the last can't be)");
        String town = "place a;person p at a hire 0;rule 1;errand p at a stroke 4 worth 7;";
        valued(Used.of(town), "", 0, GAP, GAP);
        valued(Used.of(town + "strokes 4;"), "", 7, 0, 0);
        valued(Used.of(town + "strokes 8;errand p at a stroke 8 worth 20;"), "", 27, 0, 0);
        valued(Used.of(town + "strokes 7;errand p at a stroke 8 worth 20;"), "", 7, GAP, GAP);
    }

    private static void isNothingAtHome() {
        Check.sentence("AWAY: at a STROKE a PERSON not at HOME");
        Used x = Used.of("place a;place b;way a b minutes 1;rule 1;person p at b hire 99;errand p at b stroke 2 worth 5;");
        valued(x, "", 5, 0, 0);
        valued(x, "p b b b;", 5, 0, 0);
        valued(x, "p a b;", -94, -1, -2);
    }

    private static void isAtItsMost() {
        Check.sentence("worth of all ERRANDS DONE: 8 of 999");
        valued(Used.of("place a;rule 1;person p at a hire 99;" + "errand p at a stroke 1 worth 999;".repeat(8)), "",
                7992, 0, 0);
    }

    private static void isAtItsLeast() {
        Check.sentence("less hire, less 1, less MINUTES: all five at 8 STROKES");
        Used x = Used.of("place a;place b;way a b minutes 999;hour 999;rule 1;strokes 8;" + Texts.persons(5, 99));
        String always = " b a b a b a b a;";
        valued(x, "p" + always + "q" + always + "r" + always + "s" + always + "t" + always, -1980, -20, -39960);
        valued(x, "p b;q b;r b;s b;t b;", -3960, -40, -4995);
    }

    private static void isOfTheToldPlanAlone() {
        Check.sentence("VALUE of the TOLD PLAN");
        Used x = Used.of(Texts.FOUR);
        x.plan("p b c;q b c;");
        x.send(3, 2);
        x.strike();
        x.count(1, 0, 0);
        for (int what = 0; what < 3; what++) {
            x.best(what);
            x.breaks(what, -1);
            x.spare(0, what);
            x.often(2, what);
            x.built(1, what, -1);
            x.judge(what);
        }
        x.states(1, 0);
        Check.due("worth", x.value(0), 3);
        Check.due("companions", x.value(1), -3);
        Check.due("minutes", x.value(2), -160);
    }

    private Promise10ValueTest() {
    }
}
