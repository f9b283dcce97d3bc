/** Promise 29: about. */
final class Promise29AboutTest {
    private static final int NONE = EvenTown.NONE;

    public static void main(String[] args) {
        Check.promise(29, "about");
        tellsThirteenThings();
        isNoneOfAnotherWhat();
        standsAtTheMost();
        standsAtTheLeast();
        tellsWhatIsInEarnest();
        tellsWhatIsTold();
        tellsUnits();
        leavesAllAsItWas();
        Check.close();
    }

    private static void tellsThirteenThings() {
        Check.sentence("0: PLACES, 1: PERSONS, 2: DOGS, 3: ERRANDS, 4: ways .. 10: units, 11: hour, 12: strokes");
        Used x = Used.of(Texts.FOUR + "dog d at c;errand q at a stroke 8 worth 1;errand q at a stroke 8 worth 1;"
                + "errand q at a stroke 8 worth 1;errand q at a stroke 8 worth 1;rule here + 1 - (here + 3) or 0;hour 70;");
        int[] about = {3, 4, 1, 5, 2, 0, 0, 0, 0, 0, 6, 70, 2};
        for (int what = 0; what < about.length; what++) {
            Check.due("about " + what, x.about(what), about[what]);
        }
    }

    private static void isNoneOfAnotherWhat() {
        Check.sentence("NONE for another what");
        for (Used x : new Used[] {new Used(), Used.of(Texts.FOUR)}) {
            Check.due("13", x.about(13), NONE);
            Check.due("14", x.about(14), NONE);
            Check.due("-1", x.about(-1), NONE);
            for (int what : Texts.NO_INDEX) {
                Check.due("about " + what, x.about(what), NONE);
            }
        }
    }

    private static void standsAtTheMost() {
        Check.sentence("PLACES 6, PERSONS 5, DOGS 3, ERRANDS 8, ways 15, units 40, hour 999, strokes 8");
        Used x = Used.of(Texts.SIX_PLACES + Texts.allWays(999) + Texts.persons(5, 99) + "dog d at a;dog e at b;dog f at c;"
                + "errand p at a stroke 8 worth 999;".repeat(8) + "rule 1" + "+1".repeat(39) + ";hour 999;strokes 8;");
        int[] about = {6, 5, 3, 8, 15, 0, 0, 0, 0, 0, 40, 999, 8};
        for (int what = 0; what < about.length; what++) {
            Check.due("about " + what, x.about(what), about[what]);
        }
        for (int i = 0; i < 41; i++) {
            x.count(1, 0, 0);
        }
        Check.due("counts", x.about(5), 40);
    }

    private static void standsAtTheLeast() {
        Check.sentence("hour 1, strokes 1, units 1");
        Used x = Used.of("hour 1;strokes 1;rule 0;");
        int[] about = {0, 0, 0, 0, 0, 0, 0, 0, 0, 0, 1, 1, 1};
        for (int what = 0; what < about.length; what++) {
            Check.due("about " + what, x.about(what), about[what]);
        }
    }

    private static void tellsWhatIsInEarnest() {
        Check.sentence("8: the STROKE in earnest, 9: how many were ODD in all STRIKES");
        Used x = Used.of("place a;place b;place c;person p at a hire 0;rule place < stroke;");
        int[] odd = {2, 3, 3, 3, 3, 3, 3, 3, 3};
        for (int strike = 1; strike <= 9; strike++) {
            x.strike();
            Check.due("stroke", x.about(8), Math.min(strike, 8));
            Check.due("odd", x.about(9), odd[strike - 1]);
        }
        x = Used.of(Texts.SIX_PLACES + "rule 0;");
        for (int strike = 1; strike <= 9; strike++) {
            x.strike();
        }
        Check.due("the most odd", x.about(9), 48);
    }

    private static void tellsWhatIsTold() {
        Check.sentence("5: COUNTS, 6: the TIME, 7: bytes on the TAPE");
        Used x = Used.of(Texts.FOUR);
        Check.due("tape", x.about(7), 0);
        x.tape("place z;place");
        Check.due("tape", x.about(7), 13);
        x.end(4);
        Check.due("tape", x.about(7), 4);
        x.plan();
        Check.due("tape", x.about(7), 0);
        x.later(1000);
        Check.due("time", x.about(6), 1000);
        x.count(1, 0, 0);
        x.count(1, 0, 6);
        Check.due("counts", x.about(5), 1);
        x.untell(0);
        Check.due("an untold one is one still", x.about(5), 1);
    }

    private static void tellsUnits() {
        Check.sentence("10: units");
        Check.due("without a rule", Used.of("place a;").about(10), 0);
        Check.due("a number", Used.of("rule 7;").about(10), 1);
        Check.due("in brackets", Used.of("rule (7);").about(10), 2);
        Check.due("behind not", Used.of("rule not not 7;").about(10), 1);
        Check.due("one more in brackets", Used.of("rule ((7) + here) * 2;").about(10), 5);
        Check.due("of each kind", Used.of("rule not here < stroke and place = dogs or 1;").about(10), 5);
        Used x = Used.of("rule 1 + 2 + 3;");
        x.town("rule 1 + 2 + 3 + 4 +;");
        Check.due("those of a faulty town are none", x.about(10), 3);
        x.town("place a;");
        Check.due("those of before are none", x.about(10), 0);
    }

    private static void leavesAllAsItWas() {
        Check.sentence("what: it is asked, not done");
        Used x = Used.of(Texts.FOUR);
        x.send(0, 1);
        String before = Seen.of(x);
        for (int what = -2; what < 15; what++) {
            x.about(what);
        }
        Seen.same("behind about", x, before);
        x.strike();
        Check.due("who was sent goes", x.where(0), 1);
    }

    private Promise29AboutTest() {
    }
}
