/** Promise 12: bestAt. */
final class Promise12BestAtTest {
    private static final int NONE = EvenTown.NONE;

    public static void main(String[] args) {
        Check.promise(12, "bestAt");
        tellsEachPlace();
        isNoneOfAnotherWhat();
        isNoneOfNoStroke();
        isNoneOfNoPerson();
        isNoneWithoutABest();
        isTheFirstRowPersonByPerson();
        isTheFirstRowStrokeByStroke();
        isTheFirstRowByEach();
        isTheFirstOfAllAtTheLastPlace();
        isAPlanOfThatValue();
        Check.close();
    }

    /** Stroke by stroke a digit for each person. */
    private static void row(Used x, int what, String due) {
        StringBuilder row = new StringBuilder();
        int strokes = x.about(12);
        int persons = x.about(1);
        for (int stroke = 1; stroke <= strokes; stroke++) {
            for (int person = 0; person < persons; person++) {
                row.append(x.bestAt(what, stroke, person));
            }
            row.append(stroke < strokes ? " " : "");
        }
        Check.due("by " + what + " the row is " + row + ", due is " + due, row.toString().equals(due), true);
    }

    private static void tellsEachPlace() {
        Check.sentence("Where in BEST by what a PERSON is at a STROKE");
        Used x = Used.of(Texts.FOUR);
        row(x, 0, "1111 2211");
        row(x, 1, "1111 2211");
        row(x, 2, "1001 2002");
        row(x, 0, "1111 2211");
    }

    private static void isNoneOfAnotherWhat() {
        Check.sentence("NONE if one can't be: what");
        Used x = Used.of(Texts.FOUR);
        Check.due("what 3", x.bestAt(3, 1, 0), NONE);
        Check.due("what -1", x.bestAt(-1, 1, 0), NONE);
        for (int what : Texts.NO_INDEX) {
            Check.due("what " + what, x.bestAt(what, 1, 0), NONE);
        }
    }

    private static void isNoneOfNoStroke() {
        Check.sentence("NONE if one can't be: a STROKE (1 .. strokes)");
        Used x = Used.of(Texts.FOUR);
        Check.due("0", x.bestAt(0, 0, 0), NONE);
        Check.due("1", x.bestAt(0, 1, 0), 1);
        Check.due("2", x.bestAt(0, 2, 0), 2);
        Check.due("3", x.bestAt(0, 3, 0), NONE);
        Check.due("8", x.bestAt(0, 8, 0), NONE);
        Check.due("9", x.bestAt(0, 9, 0), NONE);
        Check.due("-1", x.bestAt(0, -1, 0), NONE);
        for (int stroke : Texts.NO_INDEX) {
            Check.due("stroke " + stroke, x.bestAt(0, stroke, 0), NONE);
        }
        x = Used.of("place a;place b;way a b minutes 1;rule 1;strokes 8;person p at a hire 0;"
                + "errand p at b stroke 8 worth 1;");
        Check.due("8 of 8", x.bestAt(0, 8, 0), 1);
        Check.due("9 of 8", x.bestAt(0, 9, 0), NONE);
    }

    private static void isNoneOfNoPerson() {
        Check.sentence("NONE if one can't be: a PERSON");
        Used x = Used.of(Texts.FOUR);
        Check.due("3", x.bestAt(0, 1, 3), 1);
        Check.due("4", x.bestAt(0, 1, 4), NONE);
        Check.due("-1", x.bestAt(0, 1, -1), NONE);
        Check.due("5", x.bestAt(0, 1, 5), NONE);
        for (int person : Texts.NO_INDEX) {
            Check.due("person " + person, x.bestAt(0, 1, person), NONE);
        }
        x = Used.of("place a;rule 1;" + Texts.persons(5, 0));
        Check.due("4 of 5", x.bestAt(0, 3, 4), 0);
        Check.due("5 of 5", x.bestAt(0, 3, 5), NONE);
        Check.due("of none", Used.of("place a;").bestAt(0, 1, 0), NONE);
    }

    private static void isNoneWithoutABest() {
        Check.sentence("NONE if there is none");
        Used x = Used.of("place a;person p at a hire 0;");
        for (int what = 0; what < 3; what++) {
            Check.due("always odd, by " + what, x.bestAt(what, 1, 0), NONE);
        }
        x = Used.of("place a;person p at a hire 0;rule 1;errand p at a stroke 4 worth 1;");
        Check.due("by worth", x.bestAt(0, 1, 0), 0);
        Check.due("by companions", x.bestAt(1, 1, 0), NONE);
        Check.due("by minutes", x.bestAt(2, 1, 0), NONE);
    }

    private static void isTheFirstRowPersonByPerson() {
        Check.sentence("of like ones the first row (.. PERSON by PERSON)");
        Used x = Used.of("place a;place b;way a b minutes 5;person p at b hire 0;person q at b hire 0;"
                + "person r at b hire 0;strokes 1;rule here < 3;");
        row(x, 0, "001");
        x = Used.of("place a;place b;place c;way a b minutes 5;way b c minutes 5;person p at c hire 0;person q at b hire 0;"
                + "rule here < 2;strokes 2;");
        row(x, 0, "01 01");
        x = Used.of("place a;place b;place c;way a b minutes 5;way b c minutes 5;person p at c hire 0;person q at b hire 0;"
                + "rule here < 2;strokes 2;hour 5;");
        row(x, 0, "10 01");
    }

    /** By d's ways one is at a and then at c, or at b and stays: both are worth 5. */
    private static void isTheFirstRowStrokeByStroke() {
        Check.sentence("of like ones the first row (STROKE by STROKE ..)");
        String town = "place a;place b;place c;place d;way d a minutes 10;way d b minutes 10;way a c minutes 10;hour 10;"
                + "rule 1;strokes 2;person p at d hire 0;errand p at c stroke 2 worth 5;errand p at b stroke 1 worth ";
        row(Used.of(town + "5;"), 0, "0 2");
        row(Used.of(town + "6;"), 0, "1 1");
        row(Used.of(town + "4;"), 0, "0 2");
    }

    private static void isTheFirstRowByEach() {
        Check.sentence("of like ones the first row: by each what");
        Used x = Used.of("place a;place b;way a b minutes 5;rule 1;person p at b hire 0;");
        row(x, 0, "0 0 0");
        row(x, 1, "1 1 1");
        row(x, 2, "1 1 1");
        x = Used.of("place a;place b;place c;way a b minutes 5;way b c minutes 5;rule 1;person p at b hire 0;"
                + "errand p at c stroke 2 worth 9;");
        row(x, 0, "0 2 0");
        row(x, 1, "1 2 1");
        row(x, 2, "1 2 2");
    }

    private static void isTheFirstOfAllAtTheLastPlace() {
        Check.sentence("Where a PERSON is: the last PLACE of all, for all, at the last STROKE of all");
        Used x = Used.of("place a;place b;place c;place d;place e;place f;way a f minutes 60;strokes 8;rule here = 0 or "
                + "place = 5 and stroke = 8 or place = 0 and stroke < 8;" + Texts.persons(5, 1));
        for (int what = 0; what < 3; what++) {
            row(x, what, "00000 ".repeat(7) + "55555");
        }
    }

    private static void isAPlanOfThatValue() {
        Check.sentence("VALUE of BEST is that of the PLAN");
        Used x = Used.of(Texts.SIX_PLACES + Texts.allWays(25) + Texts.persons(5, 3) + "strokes 8;hour 25;"
                + "errand p at f stroke 8 worth 99;errand q at d stroke 3 worth 70;errand r at d stroke 3 worth 60;"
                + "errand s at b stroke 5 worth 20;rule here < 4 and not (place = 2 and here = stroke - 4);");
        for (int what = 0; what < 3; what++) {
            StringBuilder plan = new StringBuilder();
            for (int person = 0; person < 5; person++) {
                plan.append((char) ('p' + person));
                for (int stroke = 1; stroke <= 8; stroke++) {
                    plan.append(' ').append((char) ('a' + x.bestAt(what, stroke, person)));
                }
                plan.append(';');
            }
            Check.due("lines", x.plan(plan.toString()), 5);
            Check.due("worth by " + what, x.value(what), x.best(what));
            Check.due("there is one", x.best(what) > EvenTown.GAP, true);
        }
    }

    private Promise12BestAtTest() {
    }
}
