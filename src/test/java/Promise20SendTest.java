/** Promise 20: send. */
final class Promise20SendTest {
    public static void main(String[] args) {
        Check.promise(20, "send");
        isTrueWhereTheyGet();
        isFalseOfNoPerson();
        isFalseOfNoPlace();
        isFalseWhereTheyDoNotGet();
        getsThereInJustAnHour();
        doesNothingWhenRefused();
        comesInPlaceOfWhatWasSent();
        goesFromWhereTheyAre();
        isTakenToWhereOneIs();
        sendsIntoPlacesThatAreNotRight();
        isForOneStroke();
        Check.close();
    }

    private static void isTrueWhereTheyGet() {
        Check.sentence("One is SENT: true");
        Used x = Used.of(Texts.FOUR);
        Check.due("p to b", x.send(0, 1), true);
        Check.due("r to c", x.send(2, 2), true);
        Check.due("s to a", x.send(3, 0), true);
        x.strike();
        Check.due("p", x.where(0), 1);
        Check.due("q", x.where(1), 0);
        Check.due("r", x.where(2), 2);
        Check.due("s", x.where(3), 0);
    }

    private static void isFalseOfNoPerson() {
        Check.sentence("false if one can't be: a PERSON");
        Check.due("of none", new Used().send(0, 0), false);
        Used x = Used.of(Texts.FOUR);
        Check.due("4", x.send(4, 0), false);
        Check.due("-1", x.send(-1, 0), false);
        for (int person : Texts.NO_INDEX) {
            Check.due("person " + person, x.send(person, 0), false);
        }
        x = Used.of("place a;" + Texts.persons(5, 0));
        Check.due("the fifth", x.send(4, 0), true);
        Check.due("the sixth", x.send(5, 0), false);
    }

    private static void isFalseOfNoPlace() {
        Check.sentence("false if one can't be: a PLACE");
        Used x = Used.of(Texts.FOUR);
        Check.due("3", x.send(0, 3), false);
        Check.due("-1", x.send(0, -1), false);
        for (int place : Texts.NO_INDEX) {
            Check.due("place " + place, x.send(0, place), false);
        }
        x = Used.of(Texts.SIX_PLACES + Texts.allWays(60) + Texts.persons(1, 0));
        Check.due("the sixth", x.send(0, 5), true);
        Check.due("the seventh", x.send(0, 6), false);
    }

    private static void isFalseWhereTheyDoNotGet() {
        Check.sentence("false if they do not GET there");
        Used x = Used.of(Texts.FOUR + "hour 49;");
        Check.due("a to c in 80", x.send(0, 2), false);
        Check.due("b to c in 50", x.send(2, 2), false);
        Check.due("a to b in 30", x.send(0, 1), true);
        x = Used.of("place a;place b;" + Texts.persons(1, 0));
        Check.due("no way", x.send(0, 1), false);
    }

    private static void getsThereInJustAnHour() {
        Check.sentence("One GETS there if that is no more than hour");
        String town = "place a;place b;place c;way a b minutes 30;way b c minutes 30;" + Texts.persons(1, 0) + "hour ";
        Check.due("60 of 60", Used.of(town + "60;").send(0, 2), true);
        Check.due("60 of 59", Used.of(town + "59;").send(0, 2), false);
        Check.due("30 of 30", Used.of(town + "30;").send(0, 1), true);
        Check.due("30 of 29", Used.of(town + "29;").send(0, 1), false);
        Check.due("0 of 1", Used.of(town + "1;").send(0, 0), true);
        Check.due("999 of 999", Used.of("place a;place b;way a b minutes 999;hour 999;" + Texts.persons(1, 0)).send(0, 1),
                true);
    }

    private static void doesNothingWhenRefused() {
        Check.sentence("false, doing nothing");
        Used x = Used.of(Texts.FOUR);
        x.send(0, 1);
        String before = Seen.of(x);
        x.send(0, 2);
        x.send(0, 3);
        x.send(0, -1);
        x.send(4, 0);
        x.send(-1, 0);
        Seen.same("behind refusals", x, before);
        x.strike();
        Check.due("what was sent ahead goes", x.where(0), 1);
        Check.due("the others stay", x.where(3), 1);
    }

    private static void comesInPlaceOfWhatWasSent() {
        Check.sentence("(in place of what was sent; not sent: stays)");
        Used x = Used.of(Texts.THREE + "person p at b hire 0;person q at b hire 0;");
        x.send(0, 0);
        x.send(1, 0);
        Check.due("elsewhere", x.send(0, 2), true);
        x.strike();
        Check.due("the last one is good", x.where(0), 2);
        Check.due("each has their own", x.where(1), 0);
        x.send(0, 1);
        Check.due("to stay", x.send(0, 2), true);
        x.strike();
        Check.due("stays", x.where(0), 2);
    }

    private static void goesFromWhereTheyAre() {
        Check.sentence("a PLACE to which they GET: from where they are");
        Used x = Used.of(Texts.FOUR);
        x.send(0, 1);
        Check.due("not from where one is sent", x.send(0, 2), false);
        x.strike();
        Check.due("from b to c", x.send(0, 2), true);
        x.strike();
        Check.due("not from home", x.send(0, 0), false);
        Check.due("from c to b", x.send(0, 1), true);
    }

    private static void isTakenToWhereOneIs() {
        Check.sentence("a PLACE to which they GET: 0 of one");
        Used x = Used.of("place a;place b;hour 1;person p at b hire 0;");
        Check.due("stays", x.send(0, 1), true);
        x.strike();
        Check.due("is there", x.where(0), 1);
    }

    private static void sendsIntoPlacesThatAreNotRight() {
        Check.sentence("One is SENT: whatever is RIGHT");
        Used x = Used.of("place a;place b empty;way a b minutes 1;rule 0;" + Texts.persons(1, 0));
        Check.due("to an empty place", x.send(0, 1), true);
        Check.due("both are odd", x.strike(), 2);
        Check.due("is there", x.where(0), 1);
    }

    private static void isForOneStroke() {
        Check.sentence("(.. not sent: stays): at each STROKE anew");
        Used x = Used.of("place a;place b;way a b minutes 1;" + Texts.persons(1, 0));
        x.send(0, 1);
        x.strike();
        x.send(0, 0);
        x.strike();
        x.strike();
        Check.due("stays where one came last", x.where(0), 0);
    }

    private Promise20SendTest() {
    }
}
