/** What can be seen of an object without changing it, but for the tape, the fault, who is sent where, and boxes: 72 calls. */
final class Seen {
    static String of(Used x) {
        StringBuilder seen = new StringBuilder();
        for (int what = 0; what <= 12; what++) {
            add(seen, what == 7 ? 0 : x.about(what));
        }
        for (int a = 0; a < 3; a++) {
            for (int b = 0; b < 3; b++) {
                add(seen, x.minutes(a, b));
                add(seen, x.right(a, b, 1));
            }
        }
        for (int what = 0; what < 3; what++) {
            add(seen, x.judge(what));
            add(seen, x.value(what));
            add(seen, x.best(what));
        }
        for (int person = 0; person < 5; person++) {
            add(seen, x.where(person));
            add(seen, x.bestAt(0, 1, person));
            add(seen, x.bestAt(0, 2, person));
            add(seen, x.sure(person, 0, 1, 1000));
            add(seen, x.sure(person, 1, 1, 1000));
        }
        add(seen, x.mend());
        for (int k = 0; k < 3; k++) {
            add(seen, x.states(1, k));
            add(seen, x.states(2, k));
        }
        return seen.toString();
    }

    /** What is asked of days that are not: 30 calls. */
    static String ofOtherDays(Used x) {
        StringBuilder seen = new StringBuilder();
        for (int what = 0; what < 3; what++) {
            for (int part = -1; part <= 0; part++) {
                add(seen, x.breaks(what, part));
                add(seen, x.built(7, what, part));
            }
            add(seen, x.often(2, what));
            for (int i = 0; i < 3; i++) {
                add(seen, x.spare(i, what));
                add(seen, what == 0 ? x.meet(0, 1, i) : 0);
            }
        }
        return seen.toString();
    }

    private static void add(StringBuilder seen, int number) {
        seen.append(number).append(' ');
    }

    /** Nothing that can be seen has changed. */
    static void same(String what, Used x, String before) {
        String now = of(x);
        Check.due(what + ": nothing has changed (" + before + "is now " + now + ")", now.equals(before), true);
    }

    private Seen() {
    }
}
