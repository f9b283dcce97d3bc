/** Promise 6: fault, with what and where the faults of towns and plans are. */
final class Promise06FaultTest {
    private static final int NONE = EvenTown.NONE;
    private static final String A = "place a;";
    private static final String AB = "place a;place b;";
    private static final String P = "place a;person p at a hire 1;";

    public static void main(String[] args) {
        Check.promise(6, "fault");
        isOneOfTwo();
        isNoneAheadOfAny();
        isThatOfTheLatest();
        looksAtEachByte();
        isNoToken();
        standsAtTheEnd();
        cannotStandThere();
        isOneTooMany();
        isASecondTime();
        isAUnitTooMany();
        isTooDeep();
        isToldAlready();
        isAWayToldAlready();
        isANumberThatCannotBe();
        isNoneOfTheKind();
        isTheFirst();
        isTheLeastAtOnePlace();
        isOfAPlan();
        isTheLeastAtOnePlaceOfAPlan();
        Check.close();
    }

    private static void fault(String text, int kind, int at) {
        Texts.faultyTown(text, kind, at);
    }

    /** A fault at the text's last so many bytes. */
    private static void faultAt(String before, String last, int kind) {
        Texts.faultyTown(before + last, kind, before.length());
    }

    private static void planFault(String text, int kind, int at) {
        Texts.faultyPlan(Texts.FOUR + "dog d at a;", text, kind, at);
    }

    private static void isOneOfTwo() {
        Check.sentence("NONE for another what");
        Used x = new Used();
        x.town("place a;place a;");
        Check.due("what 0", x.fault(0), 3);
        Check.due("what 1", x.fault(1), 14);
        Check.due("what 2", x.fault(2), NONE);
        Check.due("what -1", x.fault(-1), NONE);
        for (int what : Texts.NO_INDEX) {
            Check.due("what " + what, x.fault(what), NONE);
        }
    }

    private static void isNoneAheadOfAny() {
        Check.sentence("0: without; ahead of any, too; its place (NONE)");
        Used x = new Used();
        Check.due("kind", x.fault(0), 0);
        Check.due("place", x.fault(1), NONE);
        x.tape("?" + " ".repeat(400));
        x.plan();
        Check.due("-2 is none", x.fault(0), 0);
        Check.due("-2 is none", x.fault(1), NONE);
    }

    private static void isThatOfTheLatest() {
        Check.sentence("Of the latest of both that was not -2");
        Used x = new Used();
        x.town("place a;place a;");
        x.tape(" ".repeat(401));
        x.plan();
        Check.due("behind -2", x.fault(0), 3);
        Check.due("behind -2", x.fault(1), 14);
        x.end(0);
        x.plan("");
        Check.due("a plan without", x.fault(0), 0);
        Check.due("a plan without", x.fault(1), NONE);
        x.plan(" x");
        Check.due("a plan's", x.fault(0), 5);
        Check.due("a plan's", x.fault(1), 1);
        x.town("hour 0;");
        Check.due("a town's", x.fault(0), 4);
        Check.due("a town's", x.fault(1), 5);
        x.town("hour 5;");
        Check.due("a town without", x.fault(0), 0);
        Check.due("a town without", x.fault(1), NONE);
        x.town("?");
        x.tape(" ".repeat(401));
        x.plan();
        Check.due("behind -2", x.fault(0), 1);
        Check.due("behind -2", x.fault(1), 0);
    }

    private static void looksAtEachByte() {
        Check.sentence("what is none of these: 1 at its first byte");
        for (int sign = 0; sign < 256; sign++) {
            char c = (char) sign;
            boolean token = c >= 'a' && c <= 'z' || c >= '0' && c <= '9' || ";()<>=+-*/".indexOf(c) >= 0;
            if (c == 32 || c == 10) {
                Texts.goodTown(A + c);
            } else {
                fault(A + c, token ? 2 : 1, 8);
                fault("place" + c, c >= 'a' && c <= 'z' ? 2 : token ? 2 : 1, c >= 'a' && c <= 'z' ? 0 : 5);
            }
        }
    }

    private static void isNoToken() {
        Check.sentence("a longer word, more digits, an N with a letter behind it: 1 at its first byte");
        faultAt("place ", "abcdefghi;", 1);
        faultAt("", "abcdefghi", 1);
        faultAt("", "placeplace a;", 1);
        faultAt("hour ", "12345;", 1);
        faultAt("hour ", "00012;", 1);
        faultAt("hour ", "123456789012345678901234567890;", 1);
        faultAt("hour ", "12a;", 1);
        faultAt("hour ", "1234z;", 1);
        faultAt("hour ", "12345a;", 1);
        faultAt("rule ", "1or 2;", 1);
        faultAt("rule 1 + ", "2and 3;", 1);
        faultAt("place a", ",", 1);
        faultAt("place a;", "!", 1);
        faultAt("place a;\n ", "\t", 1);
        faultAt("rule 1 ", "& 2;", 1);
        faultAt("rule 1 ", "{2};", 1);
        faultAt("rule (", ".1);", 1);
        faultAt("rule not ", "!1;", 1);
        faultAt("place a;place b;way a b minutes ", "#;", 1);
        faultAt("place a;place b;way a ", "abcdefghi minutes 5;", 1);
    }

    private static void standsAtTheEnd() {
        Check.sentence("the end: the text's length");
        String[] starts = {"place", "place a", "place a empty", A + "person", P + "errand p at a stroke 1 worth 1", "hour",
            "hour 5", "strokes", "rule", "rule 1", "rule 1 +", "rule (", "rule (1", "rule not", "rule 1 <", "rule 1 and",
            AB + "way", AB + "way a", AB + "way a b", AB + "way a b minutes", AB + "way a b minutes 5", A + "person p",
            A + "person p at", A + "person p at a", A + "person p at a hire", A + "person p at a hire 5", A + "dog",
            A + "dog d", A + "dog d at", A + "dog d at a", P + "errand", P + "errand p", P + "errand p at",
            P + "errand p at a", P + "errand p at a stroke", P + "errand p at a stroke 1", P + "errand p at a stroke 1 worth"};
        for (String start : starts) {
            fault(start, 2, start.length());
            fault(start + "  ", 2, start.length() + 2);
            fault(start + "\n", 2, start.length() + 1);
        }
        fault("place a" + " ".repeat(1593), 2, 1600);
        fault(" ".repeat(1596) + "hour", 2, 1600);
        fault(" ".repeat(1594) + "hour 5", 2, 1600);
        fault(" ".repeat(1591) + "hour 1234", 4, 1596);
        fault(" ".repeat(1590) + "hour 12345", 1, 1595);
        fault(" ".repeat(1591) + "abcdefghi", 1, 1591);
        fault(" ".repeat(1599) + "(", 2, 1599);
    }

    private static void cannotStandThere() {
        Check.sentence("2 one that can't stand there");
        faultAt("", "a", 2);
        faultAt("", ";", 2);
        faultAt(A, ";", 2);
        faultAt("", "7;", 2);
        faultAt("", "empty;", 2);
        faultAt("", "stroke 3;", 2);
        faultAt("place ", ";", 2);
        faultAt("place ", "1;", 2);
        faultAt("place ", "empty;", 2);
        faultAt("place a ", "b;", 2);
        faultAt("place a empty ", "empty;", 2);
        faultAt("place a ", "place b;", 2);
        faultAt(AB + "way a b ", "5;", 2);
        faultAt(AB + "way a b minutes ", "a;", 2);
        faultAt(AB + "way a b minutes ", "-5;", 2);
        faultAt(A + "person p ", "a hire 1;", 2);
        faultAt(A + "person p at a ", ";", 2);
        faultAt(A + "person p at a hire ", "x;", 2);
        faultAt(A + "dog d at a ", "hire 1;", 2);
        faultAt(P + "errand p at a ", "worth 1 stroke 1;", 2);
        faultAt(P + "errand p at a stroke 1 ", "; worth 1;", 2);
        faultAt(P + "errand p at a ", "strokes 1 worth 1;", 2);
        faultAt("hour ", "x;", 2);
        faultAt("hour 5 ", "6;", 2);
        faultAt("rule", ";", 2);
        faultAt("rule ", "a;", 2);
        faultAt("rule ", "hour;", 2);
        faultAt("rule ", "-1;", 2);
        faultAt("rule (", ");", 2);
        faultAt("rule 1", ");", 2);
        faultAt("rule (1", ";", 2);
        faultAt("rule 1 ", "2;", 2);
        faultAt("rule 1 < 2 ", "< 3;", 2);
        faultAt("rule 1 = 2 ", "> 3;", 2);
        faultAt("rule 1 + ", "not 2;", 2);
        faultAt("rule 1 < ", "not 2;", 2);
        faultAt("rule 1 and ", "or 2;", 2);
        faultAt("rule 1 * ", "+ 2;", 2);
        for (String word : Texts.OWN_WORDS) {
            faultAt("place ", word + ";", 2);
            faultAt(A + "person ", word + " at a hire 1;", 2);
            faultAt(A + "person p at ", word + " hire 1;", 2);
            faultAt(A + "dog ", word + " at a;", 2);
            faultAt(A + "way ", word + " a minutes 1;", 2);
            faultAt(A + "way a ", word + " minutes 1;", 2);
            faultAt(P + "errand ", word + " at a stroke 1 worth 1;", 2);
        }
    }

    private static void isOneTooMany() {
        Check.sentence("one of a sort too many: at the line's first word");
        faultAt(Texts.SIX_PLACES, "place g;", 2);
        faultAt(Texts.SIX_PLACES, "place a;", 2);
        faultAt(Texts.SIX_PLACES, "place ?", 2);
        faultAt(Texts.SIX_PLACES + " \n", "place", 2);
        faultAt(Texts.SIX_PLACES + Texts.allWays(9), "way a b minutes 9;", 2);
        faultAt(Texts.SIX_PLACES + Texts.allWays(9), "way x", 2);
        faultAt(A + Texts.persons(5, 1), "person z at a hire 1;", 2);
        faultAt(A + Texts.persons(5, 1), "person p at a hire 1;", 2);
        faultAt(A + "dog d at a;dog e at a;dog f at a;", "dog g at a;", 2);
        faultAt(A + "dog d at a;dog e at a;dog f at a;", "dog d", 2);
        faultAt(P + "errand p at a stroke 1 worth 1;".repeat(8), "errand p at a stroke 1 worth 1;", 2);
        faultAt(P + "errand p at a stroke 1 worth 1;".repeat(8), "errand 5", 2);
    }

    private static void isASecondTime() {
        Check.sentence("hour, strokes, rule a second time: at the line's first word");
        faultAt("hour 5;", "hour 5;", 2);
        faultAt("hour 5;strokes 3;", "hour 0;", 2);
        faultAt("strokes 5;", "strokes 5;", 2);
        faultAt("strokes 5;rule 1;", "strokes 9;", 2);
        faultAt("rule 1;", "rule 1;", 2);
        faultAt("rule 1;hour 5;", "rule ?", 2);
    }

    private static void isAUnitTooMany() {
        Check.sentence("a 41st unit: at its first TOKEN");
        faultAt("rule 1" + "+1".repeat(39) + "+", "1;", 2);
        faultAt("rule 1" + "+1".repeat(39) + "+", "here;", 2);
        faultAt("rule 1" + "+1".repeat(39) + "+", "(1);", 2);
        faultAt("rule 1" + "+1".repeat(39) + " and not ", "stroke", 2);
        faultAt("rule 1" + "+1".repeat(38) + "+(", "1);", 2);
        faultAt("rule " + "(".repeat(5) + "1" + "-1".repeat(34) + "/", "1" + ")".repeat(5) + ";", 2);
        faultAt("rule (1)" + "+(1)".repeat(19) + "<", "(1);", 2);
        faultAt("rule 1" + " or not 1".repeat(39) + " or not ", "1;", 2);
    }

    private static void isTooDeep() {
        Check.sentence("what is within 7 others: at its first TOKEN, or the not");
        faultAt("rule " + "(".repeat(7), "(1" + ")".repeat(8) + ";", 2);
        faultAt("rule " + "not ".repeat(7), "not 1;", 2);
        faultAt("rule " + "not ".repeat(7), "(1);", 2);
        faultAt("rule (" + "not ".repeat(6), "not 1);", 2);
        faultAt("rule (" + "not ".repeat(6), "(1));", 2);
        faultAt("rule " + "not (".repeat(3) + "not ", "not 1", 2);
        faultAt("rule " + "(not ".repeat(3) + "(", "not 1", 2);
        faultAt("rule " + "(".repeat(7) + "1 + ", "(", 2);
        faultAt("rule " + "(".repeat(7) + "1 and ", "not 1", 2);
        faultAt("rule " + "(".repeat(7) + "1" + ")".repeat(7) + " + " + "(".repeat(7), "(", 2);
        faultAt("rule " + "not ".repeat(7) + "1 < ", "(1);", 2);
        faultAt("rule " + "not ".repeat(7) + "1 + ", "(1);", 2);
        Texts.goodTown("rule " + "not ".repeat(7) + "1 + 1 < 2 and (1) or " + "not ".repeat(6) + "(1);");
    }

    private static void isToldAlready() {
        Check.sentence("3 a NAME told already (PLACES; PERSONS and DOGS together)");
        faultAt("place a;place ", "a;", 3);
        faultAt("place a;place b;place ", "a empty;", 3);
        faultAt("place abcdefgh;place ", "abcdefgh", 3);
        faultAt(P + "person ", "p at a hire 1;", 3);
        faultAt(P + "dog ", "p at a;", 3);
        faultAt(A + "dog d at a;person ", "d at a hire 1;", 3);
        faultAt(A + "dog d at a;dog ", "d at a;", 3);
        faultAt(A + "dog d at a;dog e at a;dog ", "d ?", 3);
    }

    private static void isAWayToldAlready() {
        Check.sentence("a way's second PLACE like its first, or both told already (either way; at the second)");
        faultAt(AB + "way a ", "a minutes 5;", 3);
        faultAt(AB + "way b ", "b", 3);
        faultAt(AB + "way a b minutes 5;way a ", "b minutes 6;", 3);
        faultAt(AB + "way a b minutes 5;way b ", "a minutes 6;", 3);
        faultAt(AB + "way a b minutes 5;way a ", "a minutes 6;", 3);
        faultAt(AB + "place c;way a b minutes 5;way c b minutes 5;way b ", "c minutes 6;", 3);
        Texts.goodTown(AB + "place c;way a b minutes 5;way c b minutes 5;way c a minutes 6;");
    }

    private static void isANumberThatCannotBe() {
        Check.sentence("4 a number that can't be");
        for (String number : new String[] {"0;", "0000;", "1000;", "9999;"}) {
            faultAt(AB + "way a b minutes ", number, 4);
            faultAt("hour ", number, 4);
        }
        for (String number : new String[] {"100;", "0100;", "999;", "9999;"}) {
            faultAt(A + "person p at a hire ", number, 4);
        }
        for (String number : new String[] {"0", "9", "10", "9999"}) {
            faultAt(P + "errand p at a stroke ", number + " worth 1;", 4);
            faultAt("strokes ", number + ";", 4);
        }
        faultAt(P + "errand p at a stroke 8 worth ", "1000;", 4);
        faultAt(P + "errand p at a stroke 8 worth ", "9999;", 4);
        faultAt("hour ", "0", 4);
        Texts.goodTown("rule 9999;");
    }

    private static void isNoneOfTheKind() {
        Check.sentence("5 a NAME that is none of the kind that must stand there (told ahead)");
        faultAt("way ", "a b minutes 5;", 5);
        faultAt(A + "way a ", "b minutes 5;place b;", 5);
        faultAt(P + "way a ", "p minutes 5;", 5);
        faultAt("person p at ", "a hire 1;place a;", 5);
        faultAt(P + "person q at ", "p hire 1;", 5);
        faultAt(A + "person p at ", "p hire 1;", 5);
        faultAt("dog d at ", "a;place a;", 5);
        faultAt(A + "dog d at ", "d;", 5);
        faultAt(A + "errand ", "p at a stroke 1 worth 1;person p at a hire 1;", 5);
        faultAt(P + "errand ", "a at a stroke 1 worth 1;", 5);
        faultAt(P + "dog d at a;errand ", "d at a stroke 1 worth 1;", 5);
        faultAt(P + "errand p at ", "p stroke 1 worth 1;", 5);
        faultAt(P + "errand p at ", "b stroke 1 worth 1;place b;", 5);
        faultAt("place abcdefgh;person p at ", "abcdefg hire 1;", 5);
    }

    private static void isTheFirst() {
        Check.sentence("the first by its place");
        fault("hour 0;hour 0;?", 4, 5);
        fault("place a b ?", 2, 8);
        fault("place a;place a;place", 3, 14);
        fault("way a a minutes 0", 5, 4);
        fault("rule (1;hour 0;", 2, 7);
        fault("? hour 0;", 1, 0);
        fault(Texts.SIX_PLACES + "hour 1000;place g;", 4, 53);
    }

    private static void isTheLeastAtOnePlace() {
        Check.sentence("at one place the least");
        faultAt("hour ", "10000;", 1);
        faultAt("hour ", "1000a;", 1);
        faultAt("", "abcdefghi;", 1);
        faultAt("rule 1" + "+1".repeat(39) + "+", "12345;", 1);
        faultAt("rule 1" + "+1".repeat(39) + "+", "?", 1);
        faultAt("rule 1" + "+1".repeat(39) + "+", "a", 2);
        faultAt("rule 1" + "+1".repeat(39) + "+", ";", 2);
        faultAt("rule " + "(".repeat(7), "abcdefghi", 1);
        faultAt(A + "way a ", "abcdefghi", 1);
        faultAt(A + "person p at ", "1a", 1);
        faultAt(A + "person p at a hire ", "12345", 1);
    }

    private static void isOfAPlan() {
        Check.sentence("A TOLD PLAN: FAULTS 1, 2 (a PLACE beyond strokes), 3 a PERSON told already, 5");
        planFault("?", 1, 0);
        planFault("p b c ?", 1, 6);
        planFault("abcdefghi b;", 1, 0);
        planFault("p abcdefghi;", 1, 2);
        planFault("p 12345;", 1, 2);
        planFault("p b 1a;", 1, 4);
        planFault("p b c", 2, 5);
        planFault("p b c \n", 2, 7);
        planFault("p", 2, 1);
        planFault("p;", 2, 1);
        planFault(";", 2, 0);
        planFault("p b;;", 2, 4);
        planFault("1 b;", 2, 0);
        planFault("p 1;", 2, 2);
        planFault("p b +", 2, 4);
        planFault("p b c b;", 2, 6);
        planFault("p b c p b;", 2, 6);
        planFault("p b;p c;", 3, 4);
        planFault("p b;q b;p", 3, 8);
        planFault("p b;q b;q", 3, 8);
        planFault("z b;", 5, 0);
        planFault("d b;", 5, 0);
        planFault("a b;", 5, 0);
        planFault("p q;", 5, 2);
        planFault("p p;", 5, 2);
        planFault("p b q b;", 5, 4);
        planFault("p b p c;", 5, 4);
        for (String word : Texts.OWN_WORDS) {
            planFault(word + " b;", 2, 0);
            planFault("p " + word + ";", 2, 2);
            planFault("p b " + word + ";", 2, 4);
        }
        Texts.faultyPlan("", "p", 5, 0);
        Texts.faultyPlan("place a;", "a a;", 5, 0);
    }

    private static void isTheLeastAtOnePlaceOfAPlan() {
        Check.sentence("at one place the least");
        planFault("p b c zz;", 2, 6);
        planFault("p b c abcdefghi;", 1, 6);
        planFault("p b c B;", 1, 6);
        planFault("p b;p ?", 3, 4);
        planFault("p b;p;", 3, 4);
        planFault("z ?", 5, 0);
    }

    private Promise06FaultTest() {
    }
}
