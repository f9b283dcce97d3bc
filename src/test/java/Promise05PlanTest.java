/** Promise 5: plan, with what a plan's text may be. Where each fault stands: Promise06FaultTest. */
final class Promise05PlanTest {
    private static final int NONE = EvenTown.NONE;

    public static void main(String[] args) {
        Check.promise(5, "plan");
        saysHowManyLines();
        takesAnEmptyText();
        takesUpTo400Bytes();
        refusesMoreThan400Bytes();
        changesNothingWhenTooLong();
        emptiesTheTape();
        keepsThePlanAtAFault();
        refusesFaults();
        takesPlacesUpToStrokes();
        staysBehindTheLastTold();
        staysAtHomeWhenNotTold();
        tellsEachPersonOnce();
        takesThePlaceOfTheOlderOne();
        isNoneBehindAnotherTown();
        isAsTheFirstOne();
        standsApartFromEarnest();
        Check.close();
    }

    private static void saysHowManyLines() {
        Check.sentence("how many lines");
        String[] lines = {"p a;", "q a;", "r b;", "s b;"};
        StringBuilder text = new StringBuilder();
        for (int many = 1; many <= 4; many++) {
            text.append(lines[many - 1]);
            Check.due("lines", Used.of(Texts.FOUR).plan(text.toString()), many);
        }
        Used x = Used.of("place a;" + Texts.persons(5, 0));
        Check.due("all five", x.plan("t a;s a;r a;q a;p a;"), 5);
    }

    private static void takesAnEmptyText() {
        Check.sentence("plan = {NAME NAME {NAME} ;}: no line");
        Used x = Used.of(Texts.FOUR);
        x.plan("p b c;q b c;");
        Check.due("no text", x.plan(""), 0);
        Check.due("fault", x.fault(0), 0);
        Check.due("all stay at home", x.value(0), 0);
        Check.due("blanks", x.plan(" \n "), 0);
        Check.due("a new object", new Used().plan(), 0);
    }

    private static void takesUpTo400Bytes() {
        Check.sentence("a text of at most 400 bytes");
        Used x = Used.of(Texts.FOUR);
        Check.due("400", x.plan("p b c;" + " ".repeat(388) + "q b c;"), 2);
        Check.due("all are read", x.value(0), 3);
        Check.due("400 with a fault at the last", x.plan(" ".repeat(399) + "?"), NONE);
        Check.due("its place", x.fault(1), 399);
    }

    private static void refusesMoreThan400Bytes() {
        Check.sentence("-2: more than 400 bytes");
        Used x = Used.of(Texts.FOUR);
        Check.due("401", x.plan("p b c;" + " ".repeat(395)), -2);
        x.end(0);
        Check.due("401 blanks", x.plan(" ".repeat(401)), -2);
        x.end(0);
        Check.due("401 with a fault", x.plan("?" + " ".repeat(400)), -2);
        x.end(0);
        Check.due("1,600", x.plan(" ".repeat(1600)), -2);
        x.end(400);
        Check.due("400 of them", x.plan(), 0);
    }

    private static void changesNothingWhenTooLong() {
        Check.sentence("-2, and the TAPE stays");
        Used x = Used.of(Texts.FOUR);
        x.plan("p b c;q b c;");
        String before = Seen.of(x);
        x.tape("p a;" + " ".repeat(397));
        Check.due("too long", x.plan(), -2);
        Check.due("bytes", x.about(7), 401);
        Check.due("again", x.plan(), -2);
        Seen.same("behind -2", x, before);
        Check.due("the plan stays", x.value(0), 3);
        x.end(4);
        Check.due("the bytes stay", x.plan(), 1);
        Check.due("now it is another", x.value(0), 0);
    }

    private static void emptiesTheTape() {
        Check.sentence("The TAPE (empty then, also at a FAULT)");
        Used x = Used.of(Texts.FOUR);
        x.plan("p b c;");
        Check.due("behind a plan", x.about(7), 0);
        Check.due("end", x.end(1), NONE);
        x.plan("p b c");
        Check.due("behind a fault", x.about(7), 0);
        Check.due("end", x.end(1), NONE);
        Check.due("no line is left", x.plan(), 0);
    }

    private static void keepsThePlanAtAFault() {
        Check.sentence("NONE: a FAULT (that there is stays)");
        String[] faulty = {"?", "p", "p a;p b;", "p a;x b;", "p b b b;", "p a", "s a;r a;q q;", "p a;q b;r c;s a;;"};
        for (String text : faulty) {
            Used x = Used.of(Texts.FOUR);
            x.plan("p b c;q b c;");
            String before = Seen.of(x);
            Check.due("plan() of " + text, x.plan(text), NONE);
            Seen.same("behind " + text, x, before);
            Check.due("the plan stays", x.value(0), 3);
        }
        Used x = Used.of(Texts.FOUR);
        x.plan("p b c;x");
        Check.due("none stays none", x.value(0), 0);
    }

    private static void refusesFaults() {
        Check.sentence("NONE: a FAULT");
        String[] faulty = {";", "p;", "p a;;", "p a,", "p a b", "p 1;", "1 a;", "p at a;", "place a;", "p place;", "a a;",
            "p p;", "d a;", "z a;", "p z;", "p a z;", "p a;p a;", "p abcdefghi;", "p A;", "p a 12a;", "pa;"};
        for (String text : faulty) {
            Used x = Used.of(Texts.FOUR + "dog d at a;");
            Check.due("plan() of " + text, x.plan(text), NONE);
            Check.due("fault(0) of " + text, x.fault(0) > 0, true);
        }
    }

    private static void takesPlacesUpToStrokes() {
        Check.sentence("2 (a PLACE beyond strokes)");
        for (int strokes = 1; strokes <= 8; strokes++) {
            String town = "place a;place b;way a b minutes 1;rule 1;person p at a hire 1;strokes " + strokes + ";";
            Used x = Used.of(town);
            Check.due("as many as strokes", x.plan("p" + " b".repeat(strokes) + ";"), 1);
            Check.due("each counts", x.value(0), -strokes);
            Check.due("one more", x.plan("p" + " b".repeat(strokes + 1) + ";"), NONE);
            Check.due("its fault", x.fault(0), 2);
            Check.due("its place", x.fault(1), 2 + 2 * strokes);
        }
    }

    private static void staysBehindTheLastTold() {
        Check.sentence("(behind the last told one they stay there)");
        Used x = Used.of("place a;place b;way a b minutes 7;rule 1;person p at a hire 1;strokes 8;");
        for (int told = 1; told <= 8; told++) {
            x.plan("p" + " a".repeat(told - 1) + " b;");
            Check.due("away from there on", x.value(0), told - 9);
            Check.due("walked once", x.value(2), -7);
        }
    }

    private static void staysAtHomeWhenNotTold() {
        Check.sentence("who is not told stays at HOME");
        Used x = Used.of("place a;place b;place c;way a b minutes 7;way b c minutes 7;rule 1;strokes 8;hour 7;"
                + "person p at a hire 1;person q at b hire 10;person r at c hire 50;");
        x.plan("q c;");
        Check.due("q alone is away", x.value(0), -80);
        x.plan("p b;r b;");
        Check.due("all but q are away", x.value(0), -408);
        x.plan("");
        Check.due("nobody is away", x.value(0), 0);
    }

    private static void tellsEachPersonOnce() {
        Check.sentence("3 a PERSON told already");
        Used x = Used.of(Texts.FOUR);
        Check.due("twice", x.plan("p b c;p b c;"), NONE);
        Check.due("twice", x.plan("s b;r b;q a;p a;s b;"), NONE);
        Check.due("once in each text", x.plan("p b c;q b c;"), 2);
        Check.due("once in each text", x.plan("p b c;q b c;"), 2);
    }

    private static void takesThePlaceOfTheOlderOne() {
        Check.sentence("The TAPE is the TOLD PLAN: no other");
        Used x = Used.of(Texts.FOUR);
        x.plan("p b c;q b c;");
        x.plan("r a;s a;");
        Check.due("p and q stay at home", x.value(0), -14);
        x.plan("p a;");
        Check.due("all stay at home", x.value(0), 0);
    }

    private static void isNoneBehindAnotherTown() {
        Check.sentence("Another TOWN leaves none: all stay at HOME");
        Used x = Used.of(Texts.FOUR);
        x.plan("p b c;q b c;");
        x.town(Texts.FOUR + "hour 99;");
        Check.due("a like town", x.value(0), 0);
        x.town("place z;place y;person p at y hire 1;person q at y hire 1;person r at z hire 1;person s at z hire 1;");
        Check.due("at another home", x.value(0), 0);
        Check.due("at another home", x.judge(0), 0);
        x.plan("p y");
        x.town("place a;");
        Check.due("behind a fault, too", x.value(0), 0);
    }

    /** Whatever plans came ahead, with faults or without. */
    private static void isAsTheFirstOne() {
        Check.sentence("who is not told stays at HOME, behind the last told one they stay there: whatever was told ahead");
        String[] plans = {"", "p b c;q b c;", "r a;s a;", "p b;q b;r c c;s c c;", "s c;r c;", "p b c;q b c", "s a;r c b;?"};
        for (String first : plans) {
            for (String second : plans) {
                for (int last = 0; last < 5; last++) {
                    Used x = Used.of(Texts.FOUR);
                    x.plan(first);
                    x.plan(second);
                    x.plan(plans[last]);
                    Used fresh = Used.of(Texts.FOUR);
                    fresh.plan(plans[last]);
                    for (int what = 0; what < 3; what++) {
                        Check.due("value of " + plans[last], x.value(what), fresh.value(what));
                        Check.due("judge of " + plans[last], x.judge(what), fresh.judge(what));
                    }
                }
            }
        }
    }

    private static void standsApartFromEarnest() {
        Check.sentence("A TOLD PLAN is a text: nobody goes in earnest");
        Used x = Used.of(Texts.FOUR);
        x.send(0, 1);
        x.strike();
        x.plan("p b c;q b c;");
        Check.due("from home", x.judge(0), 0);
        Check.due("where", x.where(1), 0);
        Check.due("stroke", x.about(8), 1);
        x.plan("");
        Check.due("where", x.where(0), 1);
    }

    private Promise05PlanTest() {
    }
}
