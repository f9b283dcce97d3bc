/** Each promise of the document: ordinary inputs, the edges that it names, and wrong inputs. */
final class PromiseTest {
    private static final int NONE = EvenTown.NONE;
    private static final int GAP = EvenTown.GAP;
    private static final String THREE = "place a;place b;place c;way a b minutes 30;way b c minutes 50;";
    private static final String FOUR_PERSONS = THREE + "person p at a hire 1;person q at a hire 2;"
            + "person r at b hire 3;person s at b hire 4;errand p at c stroke 2 worth 9;strokes 2;";

    public static void main(String[] args) {
        newObject();
        feedAndEnd();
        goodTowns();
        townFaults();
        limitsOfSorts();
        unitsAndDepth();
        whatTownLeaves();
        plans();
        planFaults();
        faults();
        minutes();
        right();
        ruleValues();
        judge();
        value();
        best();
        breaks();
        spare();
        often();
        built();
        meet();
        mend();
        inEarnest();
        counts();
        statesAndSure();
        images();
        about();
        dearest();
        Check.close();
    }

    private static void newObject() {
        EvenTown x = new EvenTown();
        int[] about = {0, 0, 0, 0, 0, 0, 0, 0, 0, 0, 0, 60, 3};
        for (int what = 0; what < about.length; what++) {
            Check.due("new about " + what, x.about(what), about[what]);
        }
        Check.due("new fault 0", x.fault(0), 0);
        Check.due("new fault 1", x.fault(1), NONE);
        Check.due("new judge", x.judge(0), 0);
        Check.due("new best", x.best(2), 0);
        Check.due("new bestAt", x.bestAt(0, 1, 0), NONE);
        Check.due("new value", x.value(1), 0);
        Check.due("new states", x.states(3, 0), 1);
        Check.due("new sure", x.sure(0, 0, 1, 0), NONE);
        Check.due("new where", x.where(0), NONE);
        Check.due("new send", x.send(0, 0), false);
        Check.due("new back", x.back(0), NONE);
        Check.due("new mend", x.mend(), 0);
        Check.due("new built", x.built(1, 0, -1), GAP);
        Check.due("new breaks", x.breaks(2, 0), 1);
        Check.due("new town", x.town(), 0);
        Check.due("new plan", x.plan(), 0);
        Check.due("NONE", NONE, -1);
        Check.due("GAP", GAP, -1000000);
    }

    private static void feedAndEnd() {
        EvenTown x = new EvenTown();
        for (int i = 1; i <= 80; i++) {
            Check.due("feed " + i, x.feed(0x20202020, 0x20202020, 0x20202020, 0x20202020, 0x20202020), 20 * i);
        }
        Check.due("feed beyond", x.feed(0, 0, 0, 0, 0), NONE);
        Check.due("still full", x.about(7), 1600);
        Check.due("end too far", x.end(1601), NONE);
        Check.due("end below", x.end(-1), NONE);
        Check.due("end all", x.end(1600), 1600);
        Check.due("end 1581", x.end(1581), 1581);
        Check.due("feed does not fit", x.feed(0, 0, 0, 0, 0), NONE);
        Check.due("end 1580", x.end(1580), 1580);
        Check.due("feed fits", x.feed(0x20202020, 0x20202020, 0x20202020, 0x20202020, 0x20202020), 1600);
        Check.due("blanks alone are a town", x.town(), 0);
        Check.due("tape is empty", x.about(7), 0);
        Check.due("end 0", x.end(0), 0);
        Check.due("end 1 of none", x.end(1), NONE);
        // bytes highest first: "place ab;" and behind it what is cut off
        x.feed(0x706c6163, 0x65206162, 0x3b000000, -1, -1);
        x.end(9);
        Check.due("bytes in their order", x.town(), 0);
        Check.due("one place", x.about(0), 1);
    }

    private static void goodTowns() {
        EvenTown x = Check.made(FOUR_PERSONS + "dog d at c;dog e at c;rule here < 9 and dogs;hour 70;");
        int[] about = {3, 4, 2, 1, 2, 0, 0, 0, 0, 0, 3, 70, 2};
        for (int what = 0; what < about.length; what++) {
            Check.due("about " + what, x.about(what), about[what]);
        }
        good("place town;place e;place at1;", 1);
        good("place a;person a at a hire 0;", 0);
        good("place a;dog a at a;", 0);
        good("place a\nempty\n;", 0);
        good("place abcdefgh;", 0);
        good("hour 1;strokes 1;", 0);
        good("hour 999;strokes 8;", 0);
        good("hour 0060;", 0);
        good("place a;place b;way a b minutes 1;", 0);
        good("place a;place b;way b a minutes 999;", 0);
        good("rule 0000;", 0);
        good("rule not(here)or(place)and stroke*dogs/9999-0+1=3;", 0);
        good("placea;", 1);
        good("place b2;", 1);
        good("rule 1or 2;", 1);
        good("rule(1)or(2)and not not not not not not not 3;", 0);
        good("rule((((((( 1 )))))));", 0);
        good("", 0);
        good(" \n ", 0);
    }

    private static void good(String text, int faulty) {
        EvenTown x = new EvenTown();
        Check.due(text, Check.town(x, text) < 0, faulty == 1);
        Check.due("fault of " + text, x.fault(0) == 0, faulty == 0);
    }

    private static void fault(String text, int kind, int at) {
        EvenTown x = new EvenTown();
        Check.due("town " + text, Check.town(x, text), NONE);
        Check.due("kind of " + text, x.fault(0), kind);
        Check.due("place of " + text, x.fault(1), at);
        Check.due("tape behind " + text, x.about(7), 0);
    }

    private static void townFaults() {
        fault("place A;", 1, 6);
        fault("place abcdefghi;", 1, 6);
        fault("hour 12345;", 1, 5);
        fault("hour 12a;", 1, 5);
        fault("hour 12345a;", 1, 5);
        fault("place a,", 1, 7);
        fault("place\ta;", 1, 5);
        fault("place a;" + (char) 233, 1, 8);
        fault("#", 1, 0);
        fault("a", 2, 0);
        fault(";", 2, 0);
        fault("7", 2, 0);
        fault("place", 2, 5);
        fault("place  ", 2, 7);
        fault("place a", 2, 7);
        fault("place a ", 2, 8);
        fault("place a b;", 2, 8);
        fault("place a empty empty;", 2, 14);
        fault("place empty;", 2, 6);
        fault("place here;", 2, 6);
        fault("place dogs;", 2, 6);
        fault("place strokes;", 2, 6);
        fault("place 1;", 2, 6);
        fault("place a;place a;", 3, 14);
        fault("place a;place b;way a a minutes 1;", 3, 22);
        fault("place a;place b;way a b minutes 1;way b a minutes 2;", 3, 40);
        fault("place a;place b;way a b minutes 1;way a b minutes 1;", 3, 40);
        fault("place a;place b;way a b minutes 0;", 4, 32);
        fault("place a;place b;way a b minutes 1000;", 4, 32);
        fault("place a;way a b minutes 5;", 5, 14);
        fault("way a b minutes 5;place a;place b;", 5, 4);
        fault("way a", 5, 4);
        fault("place a;person p at b hire 1;", 5, 20);
        fault("place a;person p a hire 1;", 2, 17);
        fault("place a;person p at a hire 100;", 4, 27);
        fault("place a;person p at a hire x;", 2, 27);
        fault("place a;person p at a;", 2, 21);
        fault("place a;person p at a hire 1;person p at a hire 1;", 3, 36);
        fault("place a;person p at a hire 1;dog p at a;", 3, 33);
        fault("place a;dog p at a;person p at a hire 1;", 3, 26);
        fault("place a;dog p at a;dog p at a;", 3, 23);
        fault("place a;dog p at p;", 5, 17);
        fault("place a;dog d at a;errand d at a stroke 1 worth 1;", 5, 26);
        fault("place a;errand p at a stroke 1 worth 1;", 5, 15);
        String p = "place a;person p at a hire 1;";
        fault(p + "errand p at p stroke 1 worth 1;", 5, 41);
        fault(p + "errand p at a stroke 0 worth 1;", 4, 50);
        fault(p + "errand p at a stroke 9 worth 1;", 4, 50);
        fault(p + "errand p at a stroke 8 worth 1000;", 4, 58);
        fault(p + "errand p at a worth 1 stroke 8;", 2, 43);
        fault("hour 0;", 4, 5);
        fault("hour 1000;", 4, 5);
        fault("strokes 0;", 4, 8);
        fault("strokes 9;", 4, 8);
        fault("hour 5;hour 0;", 2, 7);
        fault("strokes 5;strokes 5;", 2, 10);
        fault("rule 1;rule 1;", 2, 7);
        fault("rule;", 2, 4);
        fault("rule 1", 2, 6);
        fault("rule 1 2;", 2, 7);
        fault("rule 1 < 2 < 3;", 2, 11);
        fault("rule 1 + not 2;", 2, 9);
        fault("rule ();", 2, 6);
        fault("rule (1;", 2, 7);
        fault("rule 1);", 2, 6);
        fault("rule -1;", 2, 5);
        fault("rule a;", 2, 5);
        fault("rule hour;", 2, 5);
        fault("rule 1 and or 2;", 2, 11);
        fault("rule 12345;", 1, 5);
        fault("rule 1 & 2;", 1, 7);
    }

    private static String repeated(String part, int times) {
        return part.repeat(times);
    }

    private static void limitsOfSorts() {
        String places = "place a;place b;place c;place d;place e;place f;";
        good(places, 0);
        fault(places + "place ;", 2, 48);
        fault(places + "place g;", 2, 48);
        StringBuilder ways = new StringBuilder(places);
        for (int i = 0; i < 6; i++) {
            for (int j = 0; j < i; j++) {
                ways.append("way ").append((char) ('a' + i)).append(' ').append((char) ('a' + j)).append(" minutes 9;");
            }
        }
        good(ways.toString(), 0);
        fault(ways + "way a b minutes 9;", 2, ways.length());
        StringBuilder persons = new StringBuilder("place a;");
        for (int i = 0; i < 5; i++) {
            persons.append("person ").append((char) ('p' + i)).append(" at a hire 99;");
        }
        good(persons.toString(), 0);
        fault(persons + "person z at a hire 1;", 2, persons.length());
        good(persons + "dog a at a;dog b at a;dog c at a;", 0);
        fault(persons + "dog a at a;dog b at a;dog c at a; dog d at a;", 2, persons.length() + 34);
        String errand = "errand p at a stroke 8 worth 999;";
        good(persons + repeated(errand, 8), 0);
        fault(persons + repeated(errand, 9), 2, persons.length() + 8 * errand.length());
    }

    private static void unitsAndDepth() {
        good("rule 1" + repeated("+1", 39) + ";", 0);
        fault("rule 1" + repeated("+1", 40) + ";", 2, 5 + 80);
        // a unit ( e ) counts as one, too: 20 * 2
        good("rule (1)" + repeated("+(1)", 19) + ";", 0);
        fault("rule (1)" + repeated("+(1)", 20) + ";", 2, 5 + 80);
        fault("rule (1)" + repeated("+(1)", 18) + "+1+(1);", 2, 84);
        Check.due("40 units", Check.made("rule 1" + repeated("+1", 39) + ";").about(10), 40);
        good("rule " + repeated("(", 7) + "1" + repeated(")", 7) + ";", 0);
        fault("rule " + repeated("(", 8) + "1" + repeated(")", 8) + ";", 2, 12);
        good("rule " + repeated("not ", 7) + "1;", 0);
        fault("rule " + repeated("not ", 8) + "1;", 2, 5 + 28);
        fault("rule " + repeated("not ", 7) + "(1);", 2, 5 + 28);
        fault("rule " + repeated("not(", 3) + "not not 1)));", 2, 5 + 16);
        good("rule " + repeated("not(", 3) + "not 1)));", 0);
        fault("rule (" + repeated("not ", 7) + "1);", 2, 6 + 24);
        good("rule (" + repeated("not ", 6) + "1);", 0);
        String seven = repeated("not ", 7) + "1";
        good("rule " + seven + repeated(" and " + seven, 39) + ";", 0);
    }

    private static void whatTownLeaves() {
        EvenTown x = Check.made(FOUR_PERSONS);
        Check.plan(x, "p b c;q b c;");
        x.send(0, 1);
        x.strike();
        x.later(7);
        x.count(1, 2, 2);
        x.image(2);
        Check.due("a fault", Check.town(x, "place a;place"), NONE);
        Check.due("leaves the town", x.about(1), 4);
        Check.due("leaves the plan", x.value(0), 3);
        Check.due("leaves where", x.where(0), 1);
        Check.due("leaves counts", x.about(5), 1);
        Check.due("leaves boxes", x.back(2), 1);
        Check.due("another town", Check.town(x, FOUR_PERSONS), 4);
        Check.due("nobody has gone", x.where(0), 0);
        Check.due("no stroke", x.about(8), 0);
        Check.due("none odd", x.about(9), 0);
        Check.due("no counts", x.about(5), 0);
        Check.due("no such count", x.untell(0), false);
        Check.due("the time stays", x.about(6), 7);
        Check.due("no box", x.back(2), NONE);
        Check.due("no plan", x.value(0), 0);
        Check.due("best is of the new town", x.best(0), 3);
        x.send(0, 1);
        Check.town(x, FOUR_PERSONS);
        x.strike();
        Check.due("who was sent is sent no more", x.where(0), 0);
    }

    private static void plans() {
        EvenTown x = Check.made(FOUR_PERSONS);
        Check.due("two lines", Check.plan(x, "p b c;q b c;"), 2);
        Check.due("its value", x.value(0), 3);
        Check.due("no line: all stay", Check.plan(x, ""), 0);
        Check.due("its value", x.value(0), 0);
        Check.due("stays at the last", Check.plan(x, "s a;r a;"), 2);
        Check.due("hire of two strokes", x.value(0), -14);
        Check.due("tape is empty", x.about(7), 0);
        Check.due("blanks: 400", Check.plan(x, " ".repeat(400)), 0);
        Check.due("401", Check.plan(x, "?" + " ".repeat(400)), -2);
        Check.due("tape stays", x.about(7), 401);
        Check.due("fault of the latest not -2", x.fault(0), 0);
        x.end(400);
        Check.due("400 with a fault", x.plan(), NONE);
        Check.due("tape is empty", x.about(7), 0);
        Check.due("fault", x.fault(0), 1);
    }

    private static void planFault(String text, int kind, int at) {
        EvenTown x = Check.made(FOUR_PERSONS + "dog d at a;");
        Check.plan(x, "p b c;q b c;");
        Check.due("plan " + text, Check.plan(x, text), NONE);
        Check.due("kind of " + text, x.fault(0), kind);
        Check.due("place of " + text, x.fault(1), at);
        Check.due("the plan stays behind " + text, x.value(0), 3);
    }

    private static void planFaults() {
        planFault("p b c", 2, 5);
        planFault("p b c ", 2, 6);
        planFault("p b c b;", 2, 6);
        planFault("p b c zz;", 2, 6);
        planFault("p b c B;", 1, 6);
        planFault("p;", 2, 1);
        planFault(";", 2, 0);
        planFault("place a;", 2, 0);
        planFault("p at a;", 2, 2);
        planFault("p b 1;", 2, 4);
        planFault("p b;p c;", 3, 4);
        planFault("p b;p", 3, 4);
        planFault("z b;", 5, 0);
        planFault("d b;", 5, 0);
        planFault("a b;", 5, 0);
        planFault("p q;", 5, 2);
        planFault("p b q;", 5, 4);
        planFault("p abcdefghi;", 1, 2);
    }

    private static void faults() {
        EvenTown x = new EvenTown();
        Check.town(x, "place a;place a;");
        Check.due("of the town", x.fault(0), 3);
        Check.due("its place", x.fault(1), 14);
        Check.plan(x, "");
        Check.due("of the plan", x.fault(0), 0);
        Check.due("its place", x.fault(1), NONE);
        Check.plan(x, "x");
        Check.due("of the plan", x.fault(0), 5);
        Check.due("its place", x.fault(1), 0);
        Check.town(x, "");
        Check.due("of the town", x.fault(0), 0);
        Check.due("another", x.fault(2), NONE);
        Check.due("another", x.fault(-1), NONE);
    }

    private static void minutes() {
        EvenTown x = Check.made("place a;place b;place c;place d;place e;way a b minutes 999;way b c minutes 999;"
                + "way c d minutes 1;way a d minutes 500;");
        Check.due("by ways", x.minutes(0, 2), 501);
        Check.due("either way", x.minutes(2, 0), 501);
        Check.due("the way itself", x.minutes(0, 1), 999);
        Check.due("of one", x.minutes(4, 4), 0);
        Check.due("no way", x.minutes(0, 4), NONE);
        Check.due("no place", x.minutes(5, 0), NONE);
        Check.due("no place", x.minutes(0, -1), NONE);
        Check.due("more than one way holds", x.minutes(1, 2), 999);
        x = Check.made("place a;place b;place c;place d;place e;place f;way a b minutes 999;way b c minutes 999;"
                + "way c d minutes 999;way d e minutes 999;way e f minutes 999;");
        Check.due("all ways", x.minutes(0, 5), 4995);
    }

    private static void right() {
        EvenTown x = Check.made("place a;place b empty;");
        for (int many = 0; many < 6; many++) {
            Check.due("even " + many, x.right(0, many, 8), many % 2 == 0 ? 1 : 0);
            Check.due("empty " + many, x.right(1, many, 1), many == 0 ? 1 : 0);
        }
        Check.due("6", x.right(0, 6, 1), NONE);
        Check.due("-1", x.right(0, -1, 1), NONE);
        Check.due("stroke 0", x.right(0, 0, 0), NONE);
        Check.due("stroke 9", x.right(0, 0, 9), NONE);
        Check.due("no place", x.right(2, 0, 1), NONE);
        Check.due("no place", x.right(-1, 0, 1), NONE);
        x = Check.made("place a;place b empty;dog d at b;rule here = 1 or dogs * stroke > 2 and place;");
        Check.due("one", x.right(0, 1, 1), 1);
        Check.due("none", x.right(0, 0, 3), 0);
        Check.due("stroke 3 with a dog", x.right(1, 0, 3), 1);
        Check.due("stroke 2 with a dog", x.right(1, 0, 2), 0);
        Check.due("empty", x.right(1, 1, 3), 0);
    }

    private static void ruleIs(String rule, int want) {
        EvenTown x = Check.made("place z;place a;dog d at a;dog e at a;rule " + rule + ";");
        Check.due("rule " + rule, x.right(1, 5, 3), want);
    }

    private static void ruleValues() {
        ruleIs("here = 5 and stroke = 3 and place = 1 and dogs = 2", 1);
        ruleIs("1 + 2 * 3 = 7", 1);
        ruleIs("(1 + 2) * 3 = 9", 1);
        ruleIs("9 - 3 - 2 = 4", 1);
        ruleIs("9 / 2 * 2 = 8", 1);
        ruleIs("(0 - 9) / 2 = 0 - 4", 1);
        ruleIs("7 / 0 = 0", 1);
        ruleIs("7 / 0", 0);
        ruleIs("1 or 0 and 0", 1);
        ruleIs("not 1 or 1", 1);
        ruleIs("not 0 = 1", 1);
        ruleIs("not 2 = 1", 1);
        ruleIs("not 5", 0);
        ruleIs("(2 and 4) = 1", 1);
        ruleIs("(0 or 4) = 1", 1);
        ruleIs("(3 < 4) + (4 > 3) + (4 = 4) = 3", 1);
        ruleIs("3 < 3", 0);
        ruleIs("3 > 3", 0);
        ruleIs("0 - 1", 1);
        ruleIs("(2) = 2", 1);
        ruleIs("9999 * 9999 * 9999 = 0 - 1", 0);
        // 65536 * 65536 wraps to 0, 32768 * 65536 to the least int
        ruleIs("4096 * 16 * 4096 * 16", 0);
        ruleIs("4096 * 8 * 4096 * 16 < 0", 1);
        ruleIs("4096 * 8 * 4096 * 16 / (0 - 1) < 0", 1);
        ruleIs("4096 * 8 * 4096 * 16 - 1 > 0", 1);
    }

    private static void judged(String plan, int kind, int stroke, int number) {
        EvenTown x = Check.made(FOUR_PERSONS);
        Check.plan(x, plan);
        Check.due("judge 0 of " + plan, x.judge(0), kind);
        Check.due("judge 1 of " + plan, x.judge(1), stroke);
        Check.due("judge 2 of " + plan, x.judge(2), number);
        Check.due("judge 3", x.judge(3), NONE);
        Check.due("judge -1", x.judge(-1), NONE);
    }

    private static void judge() {
        judged("", 3, 2, 0);
        judged("p b c;q b c;", 0, NONE, NONE);
        judged("q c;", 1, 1, 1);
        judged("q b;p c;", 1, 1, 0);
        judged("r c a;", 2, 1, 1);
        judged("r c a;s c;", 1, 2, 2);
        judged("p b;", 2, 1, 0);
        judged("p b b;q b c;", 2, 2, 1);
        EvenTown x = Check.made("place a;place b;person p at a hire 0;person q at a hire 0;strokes 1;"
                + "errand q at b stroke 1 worth 1;errand p at b stroke 1 worth 1;errand p at b stroke 2 worth 5;");
        Check.due("the least errand", x.judge(2), 0);
        x = Check.made("place a;place b;person p at a hire 0;person q at a hire 0;strokes 1;"
                + "errand p at b stroke 2 worth 5;");
        Check.due("an errand behind the last stroke is of none", x.judge(0), 0);
        Check.due("but it can't be done", x.value(1), GAP);
    }

    private static void value() {
        EvenTown x = Check.made(FOUR_PERSONS);
        Check.due("not done: 0", x.value(0), 0);
        Check.due("not done: 1", x.value(1), GAP);
        Check.due("not done: 2", x.value(2), GAP);
        Check.plan(x, "p b c;q b c;");
        Check.due("worth less hire", x.value(0), 3);
        Check.due("companions", x.value(1), -3);
        Check.due("walking", x.value(2), -160);
        Check.due("what 3", x.value(3), GAP);
        Check.due("what -1", x.value(-1), GAP);
        Check.plan(x, "p b;");
        Check.due("not lawful", x.value(0), GAP);
        Check.plan(x, "p c;q c;");
        Check.due("does not go", x.value(0), GAP);
        x = Check.made("place a;place b;way a b minutes 1;person p at a hire 0;person q at a hire 0;strokes 1;"
                + "errand p at b stroke 1 worth 5;errand p at b stroke 1 worth 6;errand p at a stroke 1 worth 7;");
        Check.plan(x, "p b;q b;");
        Check.due("two done", x.value(0), 11);
        Check.due("one missed", x.value(1), GAP);
    }

    private static void best() {
        EvenTown x = Check.made(FOUR_PERSONS);
        int[] worth = {3, -3, -160};
        int[][] rows = {{1, 1, 1, 1, 2, 2, 1, 1}, {1, 0, 0, 1, 2, 0, 0, 2}, {1, 0, 0, 1, 2, 0, 0, 2}};
        for (int what = 0; what < 3; what++) {
            Check.due("best " + what, x.best(what), worth[what]);
        }
        for (int i = 0; i < 8; i++) {
            Check.due("row 0 at " + i, x.bestAt(0, 1 + i / 4, i % 4), rows[0][i]);
            Check.due("row 2 at " + i, x.bestAt(2, 1 + i / 4, i % 4), rows[2][i]);
        }
        Check.due("best 3", x.best(3), GAP);
        Check.due("best -1", x.best(-1), GAP);
        Check.due("bestAt what", x.bestAt(3, 1, 0), NONE);
        Check.due("bestAt stroke 0", x.bestAt(0, 0, 0), NONE);
        Check.due("bestAt stroke 3", x.bestAt(0, 3, 0), NONE);
        Check.due("bestAt person", x.bestAt(0, 1, 4), NONE);
        Check.due("bestAt person", x.bestAt(0, 1, -1), NONE);
        x = Check.made("place a;person p at a hire 0;");
        Check.due("always odd", x.best(0), GAP);
        Check.due("always odd", x.bestAt(0, 1, 0), NONE);
        // the first row of like ones, at no hire: all at a is not lawful here, so the first is 0 0 1
        x = Check.made("place a;place b;way a b minutes 5;person p at b hire 0;person q at b hire 0;"
                + "person r at b hire 0;strokes 1;rule here < 3;");
        Check.due("p", x.bestAt(0, 1, 0), 0);
        Check.due("q", x.bestAt(0, 1, 1), 0);
        Check.due("r", x.bestAt(0, 1, 2), 1);
    }

    private static void breaks() {
        EvenTown x = Check.made(FOUR_PERSONS);
        Check.due("value", x.breaks(0, -1), 5);
        Check.due("stroke", x.breaks(0, 0), 2);
        Check.due("part 1", x.breaks(0, 1), GAP);
        Check.due("part -2", x.breaks(0, -2), GAP);
        Check.due("what 3", x.breaks(3, -1), GAP);
        x = Check.made("place a;person p at a hire 0;strokes 2;");
        Check.due("wrong at two", x.breaks(0, -1), GAP);
        Check.due("wrong at two", x.breaks(0, 0), GAP);
        x = Check.made("place a empty;person p at a hire 0;rule stroke = 2;strokes 1;");
        Check.due("empty and rule", x.breaks(2, -1), 0);
        Check.due("empty and rule", x.breaks(2, 0), 1);
    }

    private static void spare() {
        EvenTown x = Check.made(FOUR_PERSONS);
        Check.due("spare", x.spare(2, 0), 3);
        Check.due("no place", x.spare(3, 0), GAP);
        Check.due("no place", x.spare(-1, 0), GAP);
        Check.due("what 3", x.spare(0, 3), GAP);
        x = Check.made("place a empty;place b;person p at a hire 0;way a b minutes 9;");
        Check.due("empty", x.best(0), GAP);
        Check.due("spared", x.spare(0, 0), 0);
        Check.due("the other: one goes there", x.spare(1, 0), 0);
    }

    private static void often() {
        EvenTown x = Check.made(FOUR_PERSONS);
        Check.due("2", x.often(2, 0), 0);
        Check.due("2, 1", x.often(2, 1), GAP);
        Check.due("5", x.often(5, 0), GAP);
        Check.due("1", x.often(1, 0), GAP);
        Check.due("9", x.often(9, 0), GAP);
        Check.due("0", x.often(0, 0), GAP);
        Check.due("what", x.often(2, 3), GAP);
        x = Check.made("place a;place b;way a b minutes 10;person p at a hire 1;person q at a hire 1;"
                + "errand p at b stroke 1 worth 100;strokes 1;hour 40;");
        Check.due("once", x.best(0), 98);
        Check.due("4 times: 10 minutes, at stroke 4", x.often(4, 0), 98);
        Check.due("4 times: walked once", x.often(4, 2), -20);
        Check.due("5 times: 8 minutes", x.often(5, 0), 0);
        x = Check.made("strokes 1;hour 3;");
        Check.due("hour 1", x.often(3, 0), 0);
        Check.due("hour 0", x.often(4, 0), GAP);
        x = Check.made("strokes 4;rule stroke < 8;place a;");
        Check.due("the rule at stroke 8", x.often(2, 0), GAP);
    }

    private static void built() {
        EvenTown x = Check.made(FOUR_PERSONS);
        Check.due("value", x.built(20, 0, -1), 6);
        Check.due("pair", x.built(20, 0, 0), 2);
        Check.due("0 minutes", x.built(0, 0, -1), GAP);
        Check.due("1000 minutes", x.built(1000, 0, -1), GAP);
        Check.due("what", x.built(20, 3, 0), GAP);
        Check.due("part", x.built(20, 0, 1), GAP);
        Check.due("longer than the hour: as before", x.built(999, 0, -1), 3);
        Check.due("the first pair", x.built(999, 0, 0), 1);
        Check.due("beside a way", x.built(79, 2, -1), -160);
        Check.due("beside a way", x.built(29, 2, 0), 2);
        Check.due("beside a way", x.built(29, 2, -1), -58);
        Check.due("beside ways", x.built(1, 2, -1), -2);
        x = Check.made("place a;person p at a hire 0;person q at a hire 0;");
        Check.due("one place", x.built(5, 0, -1), GAP);
        Check.due("one place", x.built(5, 0, 0), GAP);
        x = Check.made("place a empty;place b;person p at b hire 0;");
        Check.due("none at all", x.built(5, 0, -1), GAP);
        Check.due("none at all", x.built(5, 0, 0), GAP);
    }

    private static void meet() {
        EvenTown x = Check.made(FOUR_PERSONS);
        Check.due("p q at a", x.meet(0, 1, 0), 1);
        Check.due("p q at c", x.meet(0, 1, 2), 2);
        Check.due("r s at c", x.meet(2, 3, 2), 1);
        Check.due("either way", x.meet(3, 2, 2), 1);
        Check.due("one person", x.meet(1, 1, 0), NONE);
        Check.due("no person", x.meet(4, 1, 0), NONE);
        Check.due("no person", x.meet(0, -1, 0), NONE);
        Check.due("no place", x.meet(0, 1, 3), NONE);
        x.count(1, 0, 4);
        Check.due("counts do not matter", x.meet(0, 1, 0), 1);
        x = Check.made("place a;place b;way a b minutes 9;person p at a hire 0;person q at a hire 0;"
                + "person r at a hire 0;strokes 2;rule here = 3 or here = 0;");
        Check.due("never", x.meet(0, 1, 0), NONE);
        // at stroke 1 they could be alone, but no plan goes on from there
        x = Check.made("place a;place b;place c;way a b minutes 9;way a c minutes 9;person p at a hire 0;"
                + "person q at a hire 0;hour 9;strokes 2;rule stroke = 1 or place = 2 and here = 2 or place < 2 and here = 0;");
        Check.due("at b no plan goes on", x.meet(0, 1, 1), NONE);
        Check.due("at a", x.meet(0, 1, 0), 1);
        Check.due("at c", x.meet(0, 1, 2), 1);
    }

    private static void mend() {
        EvenTown x = Check.made("place a;place b;place c;place d;place e;way a b minutes 100;way c d minutes 30;"
                + "way b c minutes 7;person p at a hire 0;person q at b hire 0;person r at c hire 0;person s at d hire 0;"
                + "hour 1;");
        Check.due("two pairs", x.mend(), 130);
        x = Check.made("place a;place b;place c;place d;way a b minutes 100;way c d minutes 100;way b c minutes 7;"
                + "way a d minutes 8;person p at a hire 0;person q at b hire 0;person r at c hire 0;person s at d hire 0;");
        Check.due("the other pairs", x.mend(), 15);
        x = Check.made("place a;place b;person p at a hire 0;person q at b hire 0;");
        Check.due("no way", x.mend(), NONE);
        x = Check.made("place a;place b;place c;way a b minutes 5;person p at a hire 0;person q at b hire 0;"
                + "person r at c hire 0;");
        Check.due("three", x.mend(), NONE);
        x = Check.made("place a empty;place b;person p at a hire 0;person q at a hire 0;rule here = 9;");
        Check.due("even", x.mend(), 0);
    }

    private static void inEarnest() {
        EvenTown x = Check.made(FOUR_PERSONS);
        Check.due("too far", x.send(0, 2), false);
        Check.due("no person", x.send(4, 0), false);
        Check.due("no person", x.send(-1, 0), false);
        Check.due("no place", x.send(0, 3), false);
        Check.due("no place", x.send(0, -1), false);
        Check.due("where", x.where(3), 1);
        Check.due("no person", x.where(4), NONE);
        Check.due("no person", x.where(-1), NONE);
        Check.due("sent", x.send(0, 1), true);
        Check.due("not yet there", x.where(0), 0);
        Check.due("odd", x.strike(), 2);
        Check.due("there", x.where(0), 1);
        Check.due("stays", x.strike(), 2);
        Check.due("stays", x.where(0), 1);
        Check.due("sent", x.send(0, 2), true);
        Check.due("in place of it", x.send(0, 0), true);
        Check.due("none odd", x.strike(), 0);
        Check.due("home", x.where(0), 0);
        Check.due("to where one is", x.send(0, 0), true);
        for (int stroke = 4; stroke <= 8; stroke++) {
            Check.due("stroke " + stroke, x.strike(), 0);
            Check.due("about 8", x.about(8), stroke);
        }
        Check.due("the ninth", x.strike(), NONE);
        Check.due("about 8", x.about(8), 8);
        Check.due("about 9", x.about(9), 4);
        x = Check.made("place a;strokes 1;rule stroke < 3;");
        Check.due("right at 1", x.strike(), 0);
        Check.due("right at 2", x.strike(), 0);
        Check.due("wrong at 3", x.strike(), 1);
    }

    private static void counts() {
        EvenTown x = Check.made(FOUR_PERSONS);
        Check.due("stroke 0", x.count(0, 0, 0), NONE);
        Check.due("stroke 9", x.count(9, 0, 0), NONE);
        Check.due("no place", x.count(1, 3, 0), NONE);
        Check.due("no place", x.count(1, -1, 0), NONE);
        Check.due("6", x.count(1, 0, 6), NONE);
        Check.due("-1", x.count(1, 0, -1), NONE);
        for (int i = 0; i < 40; i++) {
            Check.due("count " + i, x.count(8, 2, 5), i);
        }
        Check.due("the 41st", x.count(1, 0, 0), NONE);
        Check.due("about 5", x.about(5), 40);
        Check.due("untell", x.untell(39), true);
        Check.due("again", x.untell(39), false);
        Check.due("none such", x.untell(40), false);
        Check.due("none such", x.untell(-1), false);
        Check.due("an untold one has its number still", x.count(1, 0, 0), NONE);
        Check.due("later 0", x.later(0), 0);
        Check.due("later -1", x.later(-1), NONE);
        Check.due("later 1001", x.later(1001), NONE);
        for (int i = 1; i <= 100; i++) {
            Check.due("later", x.later(1000), 1000 * i);
        }
        Check.due("too late", x.later(1), NONE);
        Check.due("not later", x.later(0), 100000);
        Check.due("about 6", x.about(6), 100000);
    }

    private static void statesAndSure() {
        EvenTown x = Check.made(FOUR_PERSONS);
        Check.due("states", x.states(1, 0), 10);
        Check.due("stroke 0", x.states(0, 0), NONE);
        Check.due("stroke 3", x.states(3, 0), NONE);
        Check.due("sure person", x.sure(4, 0, 1, 0), NONE);
        Check.due("sure place", x.sure(0, 3, 1, 0), NONE);
        Check.due("sure stroke 0", x.sure(0, 0, 0, 0), NONE);
        Check.due("sure stroke 3", x.sure(0, 0, 3, 0), NONE);
        Check.due("p is never at c first", x.sure(0, 2, 1, 0), 0);
        Check.due("p may be at b", x.sure(0, 1, 1, 0), 1);
        x.later(5);
        x.count(1, 2, 2);
        Check.due("as known before", x.states(1, 4), 10);
        Check.due("as known then", x.states(1, 5), 2);
        Check.due("as known ever", x.states(1, Integer.MAX_VALUE), 2);
        Check.due("as known never", x.states(1, Integer.MIN_VALUE), 10);
        Check.due("r must be at c", x.sure(2, 2, 1, 5), 2);
        Check.due("r may be at c", x.sure(2, 2, 1, 4), 1);
        x.count(3, 0, 5);
        Check.due("behind the last stroke", x.states(1, 5), 2);
        x.count(2, 0, 1);
        Check.due("none agrees", x.states(1, 5), 0);
        Check.due("none agrees", x.sure(2, 2, 1, 5), 0);
        x.later(1);
        x.untell(2);
        Check.due("untold then", x.states(1, 6), 2);
        Check.due("not yet", x.states(1, 5), 0);
        x.count(1, 2, 2);
        Check.due("told twice", x.states(1, 6), 2);
        x.count(1, 2, 0);
        Check.due("against it", x.states(1, 6), 0);
        x.untell(0);
        x.untell(3);
        Check.due("the other holds", x.sure(2, 2, 1, 6), 0);
        Check.due("places that are reached later count back", x.states(2, 6), x.states(2, 100));
    }

    private static void images() {
        EvenTown x = Check.made(FOUR_PERSONS);
        Check.due("box 3", x.image(3), NONE);
        Check.due("box -1", x.image(-1), NONE);
        Check.due("nothing kept", x.back(0), NONE);
        Check.due("box 3", x.back(3), NONE);
        Check.due("box -1", x.back(-1), NONE);
        x.send(0, 1);
        Check.due("image", x.image(0), 0);
        x.strike();
        Check.due("image", x.image(1), 1);
        x.send(0, 2);
        x.send(1, 1);
        x.strike();
        Check.due("odd in all", x.about(9), 4);
        Check.due("back", x.back(1), 1);
        Check.due("where", x.where(0), 1);
        Check.due("odd in all", x.about(9), 2);
        x.strike();
        Check.due("nobody was sent then", x.where(1), 0);
        Check.due("back", x.back(0), 0);
        Check.due("where", x.where(0), 0);
        x.strike();
        Check.due("was sent then", x.where(0), 1);
        Check.due("again", x.back(0), 0);
        Check.due("over the older one", x.image(1), 0);
        x.strike();
        Check.due("back", x.back(1), 0);
        x.count(1, 0, 0);
        x.back(0);
        Check.due("counts are not in it", x.about(5), 1);
    }

    private static void about() {
        EvenTown x = Check.made(FOUR_PERSONS);
        Check.due("-1", x.about(-1), NONE);
        Check.due("13", x.about(13), NONE);
        Check.feed(x, "place");
        Check.due("bytes", x.about(7), 5);
    }

    /** The largest towns answer, too, and the best day is worth what its plan is worth when told. */
    private static void dearest() {
        StringBuilder text = new StringBuilder("place a;place b;place c;place d;place e;place f;");
        for (int i = 1; i < 6; i++) {
            text.append("way a ").append((char) ('a' + i)).append(" minutes ").append(9 * i).append(';');
        }
        for (int i = 0; i < 5; i++) {
            text.append("person ").append((char) ('p' + i)).append(" at ").append((char) ('a' + i)).append(" hire 9;");
        }
        text.append("errand p at f stroke 8 worth 500;errand q at a stroke 3 worth 70;errand r at d stroke 3 worth 60;");
        text.append("errand s at b stroke 5 worth 20;rule here < 4 and not (place = 2 and here = stroke - 4);strokes 8;");
        EvenTown x = Check.made(text.toString());
        for (int what = 0; what < 3; what++) {
            StringBuilder plan = new StringBuilder();
            for (int person = 0; person < 5; person++) {
                plan.append((char) ('p' + person));
                for (int stroke = 1; stroke <= 8; stroke++) {
                    plan.append(' ').append((char) ('a' + x.bestAt(what, stroke, person)));
                }
                plan.append(';');
            }
            Check.due("plan of the best", Check.plan(x, plan.toString()), 5);
            Check.due("worth of the best " + what, x.value(what), x.best(what));
            Check.due("a way more is no worse", x.built(3, what, -1) >= x.best(what), true);
            Check.due("a rule less is no worse", x.breaks(what, -1) >= x.best(what), true);
            Check.due("a place spared is no worse", x.spare(2, what) >= x.best(what), true);
        }
        Check.due("states", x.states(8, 0) > 1000, true);
    }

    private PromiseTest() {
    }
}
