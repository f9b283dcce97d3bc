/** Promise 19: where. */
final class Promise19WhereTest {
    private static final int NONE = EvenTown.NONE;

    public static void main(String[] args) {
        Check.promise(19, "where");
        isHomeAtFirst();
        isNoneOfNoPerson();
        isThereWhenItStrikes();
        staysBehindTheLastStroke();
        Check.close();
    }

    private static void isHomeAtFirst() {
        Check.sentence("IN EARNEST all are at HOME at first");
        Used x = Used.of(Texts.SIX_PLACES + "person p at f hire 0;person q at a hire 0;person r at c hire 0;"
                + "person s at f hire 0;person t at b hire 0;");
        int[] home = {5, 0, 2, 5, 1};
        for (int person = 0; person < 5; person++) {
            Check.due("person " + person, x.where(person), home[person]);
        }
    }

    private static void isNoneOfNoPerson() {
        Check.sentence("NONE if there is none such");
        Check.due("of none", new Used().where(0), NONE);
        Used x = Used.of(Texts.FOUR);
        Check.due("the last", x.where(3), 1);
        Check.due("behind the last", x.where(4), NONE);
        Check.due("ahead of the first", x.where(-1), NONE);
        for (int person : Texts.NO_INDEX) {
            Check.due("person " + person, x.where(person), NONE);
        }
        x = Used.of("place a;dog d at a;" + Texts.persons(5, 0));
        Check.due("the fifth", x.where(4), 0);
        Check.due("a dog is none", x.where(5), NONE);
        x.town("place a;" + Texts.persons(2, 0));
        Check.due("one of the town of before", x.where(2), NONE);
    }

    private static void isThereWhenItStrikes() {
        Check.sentence("It STRIKES: all are there");
        Used x = Used.of(Texts.FOUR);
        x.send(0, 1);
        Check.due("not yet", x.where(0), 0);
        x.strike();
        Check.due("now", x.where(0), 1);
        Check.due("another stays", x.where(1), 0);
        x.send(0, 2);
        x.send(2, 0);
        Check.due("not yet", x.where(0), 1);
        x.strike();
        Check.due("now", x.where(0), 2);
        Check.due("at once", x.where(2), 0);
        x.strike();
        Check.due("stays", x.where(0), 2);
    }

    private static void staysBehindTheLastStroke() {
        Check.sentence("(STROKES go on from 1 to 8 at most)");
        Used x = Used.of(Texts.FOUR);
        for (int stroke = 1; stroke <= 8; stroke++) {
            x.send(0, stroke % 2);
            x.strike();
            Check.due("stroke " + stroke, x.where(0), stroke % 2);
        }
        x.send(0, 1);
        x.strike();
        Check.due("no ninth", x.where(0), 0);
    }

    private Promise19WhereTest() {
    }
}
