/** Promise 4: town, with what a town's text may be. Where each fault stands: Promise06FaultTest. */
final class Promise04TownTest {
    private static final int NONE = EvenTown.NONE;
    private static final String P = "place a;person p at a hire 1;";

    public static void main(String[] args) {
        Check.promise(4, "town");
        takesUpTo1600Bytes();
        takesAnEmptyText();
        saysHowManyPersons();
        takesWordsOfEightLetters();
        takesNumbersOfFourDigits();
        takesSignsAndBlanks();
        partsTokens();
        refusesLettersBehindNumbers();
        refusesOwnWordsAsNames();
        takesSixPlaces();
        takesFifteenWays();
        takesFivePersons();
        takesThreeDogs();
        takesEightErrands();
        takesEachOnce();
        standsWithoutHourStrokesAndRule();
        keepsNamesApart();
        wantsNamesToldAhead();
        takesFortyUnits();
        takesSixOthersAround();
        emptiesTheTape();
        startsAnew();
        keepsTheTime();
        changesNothingAtAFault();
        keepsBoxesAndSentAtAFault();
        forgetsTheOldTown();
        isAsInANewObject();
        Check.close();
    }

    private static void good(String text) {
        Texts.goodTown(text);
    }

    private static void refused(String text) {
        Used x = new Used();
        Check.due("town() of " + text, x.town(text), NONE);
        Check.due("fault(0) of " + text, x.fault(0) > 0, true);
        Check.due("places of " + text, x.about(0), 0);
    }

    private static void takesUpTo1600Bytes() {
        Check.sentence("A TOWN is a text of at most 1,600 bytes");
        Used x = Texts.goodTown("place a" + " ".repeat(1592) + ";");
        Check.due("its place", x.about(0), 1);
        x = Texts.goodTown(" ".repeat(1575) + "place a;place b;hour 999;");
        Check.due("its hour", x.about(11), 999);
        refused("place a" + " ".repeat(1593));
        refused(" ".repeat(1599) + "?");
    }

    private static void takesAnEmptyText() {
        Check.sentence("town = {line}: no line");
        Used x = Used.of(Texts.FOUR);
        Check.due("no text", x.town(""), 0);
        Check.due("fault", x.fault(0), 0);
        Check.due("no places", x.about(0), 0);
        Check.due("no persons", x.about(1), 0);
        Check.due("no errands", x.about(3), 0);
        Check.due("no ways", x.about(4), 0);
        Check.due("strokes", x.about(12), 3);
        good(" \n ");
    }

    private static void saysHowManyPersons() {
        Check.sentence("how many PERSONS");
        for (int many = 0; many <= 5; many++) {
            Used x = new Used();
            Check.due("town", x.town("place a;dog d at a;" + Texts.persons(many, 0)), many);
            Check.due("about 1", x.about(1), many);
        }
    }

    private static void takesWordsOfEightLetters() {
        Check.sentence("words (a .. z, 8 at most)");
        good("place z;");
        good("place abcdefgh;");
        good("place zzzzzzzz;");
        refused("place abcdefghi;");
        refused("place zzzzzzzzz;");
        refused("place placeplace;");
        refused("place strokesss;");
        refused("place abcdefghijklmnopqrstuvwxyz;");
        refused("place A;");
        refused("place aB;");
        refused("place a`;");
        refused("place {;");
        Used x = Texts.goodTown("place abcdefgh;place abcdefg;place bcdefgh;way abcdefgh bcdefgh minutes 5;");
        Check.due("all eight letters count", x.minutes(0, 2), 5);
        Check.due("no other way", x.minutes(0, 1), NONE);
    }

    private static void takesNumbersOfFourDigits() {
        Check.sentence("N (1 to 4 digits)");
        good("hour 1;");
        good("hour 01;");
        good("hour 001;");
        good("hour 0999;");
        refused("hour 00001;");
        refused("hour 00999;");
        refused("hour 0000000000000000000000000000000001;");
        Used x = Texts.goodTown("rule 9999;hour 0060;");
        Check.due("hour", x.about(11), 60);
        refused("rule 10000;");
        refused("rule 00000;");
        good("rule 0000;");
    }

    private static void takesSignsAndBlanks() {
        Check.sentence("signs ; ( ) < > = + - * /; blanks (32, 10) part them or not");
        good("rule(1+2-3*4/5<6)and(1>2)or(1=2);");
        good("rule ( 1 + 2 - 3 * 4 / 5 < 6 )\nand\n\n(1>2)or (1 = 2 )\n;\n");
        good("\n\n  place\na\nempty\n;place\n\nb ;");
        for (int sign = 0; sign < 256; sign++) {
            boolean blank = sign == 32 || sign == 10;
            Used x = new Used();
            x.tape("place a;" + (char) sign + "place b;");
            Check.due("town() with a byte " + sign, x.town(), blank ? 0 : NONE);
        }
    }

    private static void partsTokens() {
        Check.sentence("each is as long as can be");
        refused("placea;");
        Used x = Texts.goodTown("place aempty;");
        Check.due("a NAME that ends like a word of its own", x.right(0, 2, 1), 1);
        refused("strokes8;hour5;strokess 8;");
        good("strokes8;hour5;");
        refused("place a;person p ata hire 1;");
        good("place a;person p at a hire1;errand p at a stroke1 worth1;");
        refused("rule hereor here;");
        refused("rule here or1 2;");
        good("rule here or1;");
        good("rule not(1)or(2)and not not 3;");
        refused("rule notnot 3;");
        refused("rule 1 1;");
        refused("rule 11 11;");
    }

    private static void refusesLettersBehindNumbers() {
        Check.sentence("no letter directly behind an N");
        refused("rule 1or 2;");
        refused("rule 1a;");
        refused("rule 9999and 1;");
        refused("place a;place b;way a b minutes 5a;");
        refused(P + "errand p at a stroke 1worth 1;");
        good("rule 1 or 2;");
        good("rule 1\nor 2;");
        good("rule(1)or(2);");
        good("rule 1<2;");
    }

    private static void refusesOwnWordsAsNames() {
        Check.sentence("Words that stand for themselves here are no NAMES");
        for (String word : Texts.OWN_WORDS) {
            refused("place " + word + ";");
            refused("place a;person " + word + " at a hire 1;");
            refused("place a;dog " + word + " at a;");
            refused("place a;person p at " + word + " hire 1;");
            good("place " + word + "z;");
            good("place a;person " + word.charAt(0) + " at a hire 1;");
        }
    }

    private static void takesSixPlaces() {
        Check.sentence("At most 6 PLACES");
        for (int many = 0; many <= 6; many++) {
            Used x = Texts.goodTown(Texts.SIX_PLACES.substring(0, 8 * many));
            Check.due("places", x.about(0), many);
            Check.due("the last one", x.minutes(many - 1, many - 1), many > 0 ? 0 : NONE);
            Check.due("none behind it", x.minutes(many, many), NONE);
        }
        refused(Texts.SIX_PLACES + "place g;");
        refused(Texts.SIX_PLACES + "place g empty;");
        good("place a empty;place b empty;place c empty;place d empty;place e empty;place f empty;");
    }

    private static void takesFifteenWays() {
        Check.sentence("15 ways (of two PLACES told ahead; minutes 1 .. 999; either way)");
        Used x = Texts.goodTown(Texts.SIX_PLACES + Texts.allWays(9));
        Check.due("ways", x.about(4), 15);
        for (int a = 0; a < 6; a++) {
            for (int b = 0; b < 6; b++) {
                Check.due("minutes", x.minutes(a, b), a == b ? 0 : 9);
            }
        }
        refused(Texts.SIX_PLACES + Texts.allWays(9) + "way a b minutes 9;");
        refused("place a;place b;way a b minutes 0;");
        refused("place a;place b;way a b minutes 1000;");
        refused("place a;place b;way a b minutes 9999;");
        Check.due("1", Texts.goodTown("place a;place b;way a b minutes 1;").minutes(0, 1), 1);
        x = Texts.goodTown("place a;place b;way b a minutes 999;");
        Check.due("999", x.minutes(0, 1), 999);
        Check.due("either way", x.minutes(1, 0), 999);
        refused("place a;place b;way a a minutes 5;");
        refused("place a;place b;way a b minutes 5;way a b minutes 5;");
        refused("place a;place b;way a b minutes 5;way b a minutes 6;");
    }

    private static void takesFivePersons() {
        Check.sentence("5 PERSONS (hire 0 .. 99)");
        Used x = Texts.goodTown("place a;" + Texts.persons(5, 99));
        Check.due("persons", x.about(1), 5);
        Check.due("the last one", x.where(4), 0);
        Check.due("none behind", x.where(5), NONE);
        refused("place a;" + Texts.persons(6, 99));
        good("place a;" + Texts.persons(5, 0));
        refused("place a;" + Texts.persons(1, 100));
        refused("place a;" + Texts.persons(1, 9999));
        x = Texts.goodTown("place a;place b;way a b minutes 1;rule 1;strokes 1;" + Texts.persons(1, 99));
        x.plan("p b;");
        Check.due("99 is its hire", x.value(0), -99);
    }

    private static void takesThreeDogs() {
        Check.sentence("3 DOGS (at PLACES told ahead)");
        String dogs = "place a;place b;dog d at a;dog e at b;dog f at b;rule dogs;";
        Used x = Texts.goodTown(dogs);
        Check.due("dogs", x.about(2), 3);
        refused(dogs + "dog g at a;");
        refused("place a;dog d at b;place b;");
        x = Texts.goodTown("place a;place b;dog d at b;dog e at b;dog f at b;rule dogs = 3;");
        Check.due("all three at b", x.right(1, 0, 1), 1);
        Check.due("none at a", x.right(0, 0, 1), 0);
    }

    private static void takesEightErrands() {
        Check.sentence("8 ERRANDS (of a PERSON, at a PLACE, told ahead; stroke 1 .. 8; worth 0 .. 999)");
        String errand = "errand p at a stroke 1 worth 999;";
        Used x = Texts.goodTown(P + errand.repeat(8) + "rule 1;");
        Check.due("errands", x.about(3), 8);
        Check.due("all are done", x.value(0), 8 * 999);
        refused(P + errand.repeat(9));
        refused(P + "errand p at a stroke 0 worth 1;");
        good(P + "errand p at a stroke 8 worth 0;");
        refused(P + "errand p at a stroke 9 worth 1;");
        refused(P + "errand p at a stroke 1 worth 1000;");
        refused("place a;errand p at a stroke 1 worth 1;person p at a hire 1;");
        refused(P + "errand p at b stroke 1 worth 1;place b;");
        refused(P + "dog d at a;errand d at a stroke 1 worth 1;");
    }

    private static void takesEachOnce() {
        Check.sentence("hour (1 .. 999), strokes (1 .. 8), rule once each");
        for (int hour : new int[] {1, 2, 60, 998, 999}) {
            Check.due("hour", Texts.goodTown("hour " + hour + ";").about(11), hour);
        }
        refused("hour 0;");
        refused("hour 1000;");
        for (int strokes = 1; strokes <= 8; strokes++) {
            Check.due("strokes", Texts.goodTown("strokes " + strokes + ";").about(12), strokes);
        }
        refused("strokes 0;");
        refused("strokes 9;");
        refused("hour 60;hour 60;");
        refused("strokes 3;strokes 3;");
        refused("rule 1;rule 1;");
        good("rule 1;strokes 3;hour 60;");
        Used x = new Used();
        for (int again = 0; again < 3; again++) {
            Check.due("once in each text", x.town("hour 7;strokes 2;rule here;"), 0);
        }
    }

    private static void standsWithoutHourStrokesAndRule() {
        Check.sentence("(60, 3; even: here is 0, 2, 4 ..)");
        Used x = Used.of("hour 7;strokes 2;rule here = 1;");
        x.town("place a;place b;place c;way a b minutes 60;way b c minutes 1;person p at a hire 0;");
        Check.due("hour", x.about(11), 60);
        Check.due("strokes", x.about(12), 3);
        Check.due("units", x.about(10), 0);
        for (int many = 0; many <= 5; many++) {
            Check.due("even", x.right(0, many, 1), many % 2 == 0 ? 1 : 0);
        }
        Check.due("60 minutes", x.send(0, 1), true);
        Check.due("61 minutes", x.send(0, 2), false);
    }

    private static void keepsNamesApart() {
        Check.sentence("a NAME told already (PLACES; PERSONS and DOGS together)");
        refused("place a;place a;");
        refused("place a;place b;place a empty;");
        refused(P + "person p at a hire 1;");
        refused(P + "dog p at a;");
        refused("place a;dog p at a;person p at a hire 1;");
        refused("place a;dog p at a;dog p at a;");
        good("place a;person a at a hire 1;place b;dog b at a;");
        good("place a;dog a at a;person b at a hire 1;place b;");
    }

    private static void wantsNamesToldAhead() {
        Check.sentence("a NAME that is none of the kind that must stand there (told ahead)");
        refused("way a b minutes 5;place a;place b;");
        refused("place a;way a b minutes 5;place b;");
        refused("person p at a hire 1;place a;");
        refused("dog d at a;place a;");
        refused("place a;person p at p hire 1;");
        refused(P + "person q at p hire 1;");
        refused(P + "errand a at a stroke 1 worth 1;");
        good("hour 5;" + P + "strokes 2;errand p at a stroke 1 worth 1;place b;way a b minutes 5;dog d at b;rule 1;");
    }

    private static void takesFortyUnits() {
        Check.sentence("40 units in all");
        good("rule 1" + "+1".repeat(39) + ";");
        refused("rule 1" + "+1".repeat(40) + ";");
        Used x = Texts.goodTown("place a;rule 1" + "+1".repeat(38) + " = 39;");
        Check.due("units", x.about(10), 40);
        Check.due("all are reckoned", x.right(0, 0, 1), 1);
        good("rule (1)" + "+(1)".repeat(19) + ";");
        refused("rule (1)" + "+(1)".repeat(20) + ";");
        refused("rule 1" + "+1".repeat(38) + " or (2);");
        good("rule here" + " or stroke and place - dogs * 2".repeat(9) + " < 1 or 2 > 3;");
        refused("rule here" + " or stroke and place - dogs * 2".repeat(10) + ";");
    }

    private static void takesSixOthersAround() {
        Check.sentence("a unit ( e ), or a one behind not, within 6 others at most");
        good("rule " + "(".repeat(7) + "1" + ")".repeat(7) + ";");
        refused("rule " + "(".repeat(8) + "1" + ")".repeat(8) + ";");
        good("rule " + "not ".repeat(7) + "1;");
        refused("rule " + "not ".repeat(8) + "1;");
        good("rule " + "not (".repeat(3) + "not 1" + ")".repeat(3) + ";");
        refused("rule " + "not (".repeat(3) + "not (1)" + ")".repeat(3) + ";");
        good("rule " + "(not ".repeat(3) + "(1)" + ")".repeat(3) + ";");
        refused("rule " + "(not ".repeat(4) + "1" + ")".repeat(4) + ";");
        String seven = "not ".repeat(7) + "1";
        good("rule " + seven + (" and " + seven).repeat(19) + (" or " + seven).repeat(20) + ";");
        String deep = "(".repeat(7) + "1" + ")".repeat(7);
        good("rule " + deep + "+" + deep + "*" + deep + " < " + deep + " or " + deep + ";");
    }

    private static void emptiesTheTape() {
        Check.sentence("The TAPE (empty then); a FAULT (the TAPE is empty then, too)");
        Used x = new Used();
        x.town("place a;");
        Check.due("behind a town", x.about(7), 0);
        Check.due("end", x.end(1), NONE);
        x.town("place");
        Check.due("behind a fault", x.about(7), 0);
        Check.due("end", x.end(1), NONE);
        Check.due("feed goes on from none", x.feed(0x706c6163, 0x6520623b, 0x20202020, 0x20202020, 0x20202020), 20);
    }

    /** Told, sent, struck, counted, kept; and a plan told. */
    private static Used stirred() {
        Used x = Used.of(Texts.FOUR);
        x.plan("p b c;q b c;");
        x.send(0, 1);
        x.strike();
        x.later(1);
        x.count(1, 2, 2);
        x.later(1);
        for (int box = 0; box < 3; box++) {
            x.image(box);
        }
        x.send(1, 1);
        return x;
    }

    private static void startsAnew() {
        Check.sentence("in earnest as at first, COUNTS, the TOLD PLAN are none, BOXES are empty then");
        Used x = stirred();
        Check.due("the like town", x.town(Texts.FOUR), 4);
        Check.due("where", x.where(0), 0);
        Check.due("stroke", x.about(8), 0);
        Check.due("odd", x.about(9), 0);
        Check.due("counts", x.about(5), 0);
        Check.due("no such count", x.untell(0), false);
        Check.due("no count counts", x.states(1, 2), 10);
        Check.due("the plan: all stay at home", x.value(0), 0);
        Check.due("the errand is not done", x.judge(0), 3);
        for (int box = 0; box < 3; box++) {
            Check.due("back", x.back(box), NONE);
        }
        Check.due("strike", x.strike(), 0);
        Check.due("who was sent is sent no more", x.where(1), 0);
        Check.due("a count's number", x.count(1, 0, 0), 0);
    }

    private static void keepsTheTime() {
        Check.sentence("the TIME stays");
        Used x = stirred();
        x.town(Texts.FOUR);
        Check.due("about 6", x.about(6), 2);
        x.count(1, 2, 2);
        Check.due("not yet told", x.states(1, 1), 10);
        Check.due("told then", x.states(1, 2), 2);
        x.town("place");
        Check.due("at a fault, too", x.about(6), 2);
        Check.due("goes on", x.later(3), 5);
    }

    private static void changesNothingAtAFault() {
        Check.sentence("NONE: a FAULT (all else stays)");
        String[] faulty = {"?", "place", "place a;place a;", "place a;way a b", "hour 0;", Texts.SIX_PLACES + "place g;",
            "place z;person q at z hire 3;dog d at z;rule 1;hour 5;strokes 7;errand q at z stroke 1 worth 1;rule 1;"};
        for (String text : faulty) {
            Used x = stirred();
            String before = Seen.of(x);
            Check.due("a fault", x.town(text), NONE);
            Check.due("the fault is new", x.fault(0) > 0, true);
            Seen.same("behind " + text, x, before);
        }
        Used x = stirred();
        x.town("rule 0;?");
        Check.due("the plan stays", x.value(0), 3);
        Check.due("best stays", x.best(0), 3);
        Check.due("meet stays", x.meet(0, 1, 2), 2);
    }

    private static void keepsBoxesAndSentAtAFault() {
        Check.sentence("NONE: a FAULT (all else stays): BOXES, who is SENT");
        Used x = stirred();
        x.town("place z;?");
        Check.due("untell", x.untell(0), true);
        x.strike();
        Check.due("who was sent goes", x.where(1), 1);
        for (int box = 0; box < 3; box++) {
            Check.due("back", x.back(box), 1);
        }
        Check.due("where", x.where(1), 0);
    }

    private static void forgetsTheOldTown() {
        Check.sentence("The TAPE is the TOWN: that of before is none");
        Used x = Used.of(Texts.FOUR + "dog d at a;rule here < 9;hour 99;");
        for (int what = 0; what < 3; what++) {
            x.best(what);
            x.breaks(what, -1);
            x.built(5, what, -1);
        }
        x.meet(0, 1, 0);
        x.states(1, 0);
        x.town("place a empty;place b;place c;person p at b hire 0;person q at b hire 0;");
        Check.due("no ways", x.minutes(0, 1), NONE);
        Check.due("no ways", x.about(4), 0);
        Check.due("no errand", x.about(3), 0);
        Check.due("no dog", x.about(2), 0);
        Check.due("hour", x.about(11), 60);
        for (int what = 0; what < 3; what++) {
            Check.due("best", x.best(what), 0);
            Check.due("bestAt", x.bestAt(what, 1, 0), 1);
            Check.due("breaks", x.breaks(what, 0), 1);
            Check.due("built", x.built(5, what, -1), 0);
        }
        Check.due("meet at a", x.meet(0, 1, 0), NONE);
        Check.due("meet at b", x.meet(0, 1, 1), 1);
        Check.due("states", x.states(1, 0), 1);
        x.town("place a;place b;place c;person p at b hire 0;person q at b hire 0;");
        Check.due("a is not told empty now", x.right(0, 2, 1), 1);
    }

    /** Whatever texts came ahead, with faults or without, and whatever was asked of them. */
    private static void isAsInANewObject() {
        Check.sentence("The TAPE is the TOWN: as if it were the first");
        String rich = Texts.FOUR + "dog d at a;dog e at a;rule here < 4 or dogs;hour 99;";
        String[] towns = {rich, "place a empty;place b;place c;person p at b hire 0;person q at b hire 0;",
            "place a;place b empty;place c;person p at a hire 5;person q at c hire 4;person r at c hire 3;"
                + "way a c minutes 9;errand p at c stroke 3 worth 77;rule here > 0 or place = 1 or stroke = 2;strokes 4;"};
        String[] ahead = {rich, towns[1], towns[2], "", rich + "rule 1;", "place z empty;dog y at z;strokes 8;hour 0;"};
        for (String first : ahead) {
            for (String second : ahead) {
                for (String town : towns) {
                    Used x = new Used();
                    x.town(first);
                    Seen.ofOtherDays(x);
                    x.states(1, 0);
                    x.town(second);
                    Seen.ofOtherDays(x);
                    x.plan("p a b;q c;");
                    Check.due("town", x.town(town) != NONE, true);
                    Used fresh = Used.of(town);
                    Seen.same("behind " + first + " and " + second, x, Seen.of(fresh));
                    String days = Seen.ofOtherDays(fresh);
                    Check.due("other days of " + town + " behind " + second, Seen.ofOtherDays(x).equals(days), true);
                }
            }
        }
    }

    private Promise04TownTest() {
    }
}
