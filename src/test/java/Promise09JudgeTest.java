/** Promise 9: judge. */
final class Promise09JudgeTest {
    private static final int NONE = EvenTown.NONE;

    public static void main(String[] args) {
        Check.promise(9, "judge");
        isOneOfThree();
        isNoneOfAll();
        isWhoDoesNotGetThere();
        isWhatIsNotRight();
        isWhatIsNotDone();
        isTheFirstKindOfAStroke();
        isTheFirstStroke();
        isTheLeastPerson();
        isTheLeastPlace();
        isTheLeastErrand();
        getsThereInJustAnHour();
        startsFromHome();
        looksUpToTheLastStroke();
        takesNoHeedOfWhatIsBehindTheLast();
        Check.close();
    }

    private static void judged(Used x, String plan, int kind, int stroke, int number) {
        Check.due("a plan without a fault: " + plan, x.plan(plan) != NONE, true);
        Check.due("judge 0 of " + plan, x.judge(0), kind);
        Check.due("judge 1 of " + plan, x.judge(1), stroke);
        Check.due("judge 2 of " + plan, x.judge(2), number);
    }

    private static void isOneOfThree() {
        Check.sentence("NONE for another what");
        Used x = Used.of(Texts.FOUR);
        Check.due("what 0", x.judge(0), 3);
        Check.due("what 1", x.judge(1), 2);
        Check.due("what 2", x.judge(2), 0);
        Check.due("what 3", x.judge(3), NONE);
        Check.due("what -1", x.judge(-1), NONE);
        for (int what : Texts.NO_INDEX) {
            Check.due("what " + what, x.judge(what), NONE);
        }
    }

    private static void isNoneOfAll() {
        Check.sentence("0: none of all (1, 2: none)");
        Used x = Used.of(Texts.FOUR);
        judged(x, "p b c;q b c;", 0, NONE, NONE);
        judged(new Used(), "", 0, NONE, NONE);
        judged(x, "p c;", 1, 1, 0);
        judged(x, "p b c;q b c;", 0, NONE, NONE);
    }

    private static void isWhoDoesNotGetThere() {
        Check.sentence("the first STROKE at which one does not GET there (kind 1)");
        Used x = Used.of(Texts.FOUR);
        judged(x, "q c;", 1, 1, 1);
        judged(x, "r c a;s c;", 1, 2, 2);
        judged(Used.of("place a;place b;person p at a hire 0;rule 1;"), "p a b;", 1, 2, 0);
    }

    private static void isWhatIsNotRight() {
        Check.sentence("else a PLACE is not RIGHT (2)");
        Used x = Used.of(Texts.FOUR);
        judged(x, "p b;", 2, 1, 0);
        judged(x, "p b b;q b c;", 2, 2, 1);
        x = Used.of("place a;place b empty;way a b minutes 1;person p at a hire 0;person q at a hire 0;");
        judged(x, "p a b;q a b;", 2, 2, 1);
        judged(Used.of("place a;place b;place c;rule place < 2 or stroke < 3;"), "", 2, 3, 2);
    }

    private static void isWhatIsNotDone() {
        Check.sentence("else an ERRAND of that STROKE is not DONE (3)");
        Used x = Used.of(Texts.FOUR);
        judged(x, "", 3, 2, 0);
        judged(x, "p b;q b;", 3, 2, 0);
        x = Used.of("place a;place b;way a b minutes 1;rule 1;person p at a hire 0;person q at a hire 0;"
                + "errand q at b stroke 3 worth 0;");
        judged(x, "q a a b;", 0, NONE, NONE);
        judged(x, "q b b a;", 3, 3, 0);
        judged(x, "p b;", 3, 3, 0);
    }

    private static void isTheFirstKindOfAStroke() {
        Check.sentence("(kind 1), else (2), else (3)");
        Used x = Used.of("place a;place b;place c;way a b minutes 1;person p at a hire 0;person q at a hire 0;strokes 1;"
                + "errand p at b stroke 1 worth 1;");
        judged(x, "q c;", 1, 1, 1);
        judged(x, "q b;", 2, 1, 0);
        judged(x, "", 3, 1, 0);
        judged(x, "p b;q b;", 0, NONE, NONE);
    }

    private static void isTheFirstStroke() {
        Check.sentence("the first STROKE: of all kinds");
        Used x = Used.of(Texts.FOUR);
        judged(x, "r c a;", 2, 1, 1);
        x = Used.of("place a;place b;place c;way a b minutes 1;rule here < 2;person p at a hire 0;person q at b hire 0;"
                + "errand p at c stroke 1 worth 1;");
        judged(x, "p a c;", 3, 1, 0);
        judged(x, "p a b;", 3, 1, 0);
        judged(x, "p b a;q b a;", 2, 1, 1);
    }

    private static void isTheLeastPerson() {
        Check.sentence("the least PERSON");
        Used x = Used.of("place a;place b;" + Texts.persons(5, 0) + "rule 1;");
        judged(x, "t b;s b;q b;", 1, 1, 1);
        judged(x, "t b;", 1, 1, 4);
        judged(x, "p a b;t b;", 1, 1, 4);
        judged(x, "t a b;p a b;", 1, 2, 0);
    }

    private static void isTheLeastPlace() {
        Check.sentence("the least PLACE");
        Used x = Used.of(Texts.SIX_PLACES + Texts.allWays(1) + Texts.persons(2, 0));
        judged(x, "p f;q e;", 2, 1, 4);
        judged(x, "q b;", 2, 1, 0);
        judged(x, "p f;q b;", 2, 1, 1);
        judged(Used.of(Texts.SIX_PLACES + "rule place < 5;"), "", 2, 1, 5);
    }

    private static void isTheLeastErrand() {
        Check.sentence("the least ERRAND");
        Used x = Used.of("place a;place b;way a b minutes 1;rule 1;person p at a hire 0;person q at a hire 0;"
                + "errand q at b stroke 2 worth 1;errand q at a stroke 1 worth 1;errand p at b stroke 1 worth 1;"
                + "errand p at a stroke 1 worth 1;errand q at b stroke 1 worth 1;");
        judged(x, "", 3, 1, 2);
        judged(x, "p b;", 3, 1, 3);
        judged(x, "q b;", 3, 1, 1);
        x = Used.of("place a;rule 1;place b;person p at a hire 0;" + "errand p at a stroke 1 worth 1;".repeat(7)
                + "errand p at b stroke 1 worth 1;");
        judged(x, "", 3, 1, 7);
    }

    private static void getsThereInJustAnHour() {
        Check.sentence("One GETS there if that is no more than hour");
        String town = "place a;place b;place c;way a b minutes 30;way b c minutes 30;rule 1;person p at a hire 0;hour ";
        judged(Used.of(town + "30;"), "p b c;", 0, NONE, NONE);
        judged(Used.of(town + "29;"), "p b c;", 1, 1, 0);
        judged(Used.of(town + "60;"), "p a c;", 0, NONE, NONE);
        judged(Used.of(town + "59;"), "p a c;", 1, 2, 0);
        judged(Used.of("place a;place b;way a b minutes 999;hour 999;rule 1;person p at a hire 0;"), "p b a b;",
                0, NONE, NONE);
    }

    private static void startsFromHome() {
        Check.sentence("it GOES, if each gets from HOME to the first, from each to the next");
        Used x = Used.of(Texts.THREE + "rule 1;person p at b hire 0;person q at c hire 0;");
        judged(x, "p c;q b;", 0, NONE, NONE);
        judged(x, "p a;q b a;", 0, NONE, NONE);
        judged(x, "q a;", 1, 1, 1);
        judged(x, "p a c;", 1, 2, 0);
        judged(x, "p a b c;q c c c;", 0, NONE, NONE);
        judged(x, "p a b c;q c c a;", 1, 3, 1);
    }

    private static void looksUpToTheLastStroke() {
        Check.sentence("A PLAN: where each PERSON is at each STROKE (1 .. strokes)");
        String town = "place a;place b;way a b minutes 1;person p at a hire 0;strokes 8;errand p at a stroke 8 worth 1;";
        judged(Used.of(town + "rule 1;"), "p a a a a a a a b;", 3, 8, 0);
        judged(Used.of(town + "rule place = 0 or here = 0;"), "p a a a a a a a b;", 2, 8, 1);
        judged(Used.of(town + "rule stroke < 8;"), "", 2, 8, 0);
        judged(Used.of("place a;place b;person p at a hire 0;rule 1;strokes 8;"), "p a a a a a a a b;", 1, 8, 0);
    }

    private static void takesNoHeedOfWhatIsBehindTheLast() {
        Check.sentence("A STROKE (1 .. strokes): none behind the last is judged");
        Used x = Used.of("place a;place b;person p at a hire 0;rule stroke < 3;strokes 2;errand p at b stroke 3 worth 1;"
                + "errand p at b stroke 8 worth 1;");
        judged(x, "", 0, NONE, NONE);
        judged(x, "p a a;", 0, NONE, NONE);
    }

    private Promise09JudgeTest() {
    }
}
