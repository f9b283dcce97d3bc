/** An EvenTown whose calls are counted: behind the 512th nothing is promised, so no test may lean on more. */
final class Used {
    private static final int MOST_CALLS = 512;
    private final EvenTown town = new EvenTown();
    private int calls;

    /** A new object with a town that has no fault. */
    static Used of(String text) {
        Used x = new Used();
        Check.due("a town without a fault: " + text, x.town(text) != EvenTown.NONE, true);
        return x;
    }

    private EvenTown called() {
        calls++;
        if (calls > MOST_CALLS) {
            throw new IllegalStateException("a test uses an object for more than 512 calls");
        }
        return town;
    }

    int calls() {
        return calls;
    }

    /** Feeds a text (of signs 0 .. 255) behind what is on the tape; the last piece is filled up and cut off again. */
    void tape(String text) {
        int before = about(7);
        for (int i = 0; i < text.length(); i += 20) {
            feed(four(text, i), four(text, i + 4), four(text, i + 8), four(text, i + 12), four(text, i + 16));
        }
        if (text.length() % 20 > 0) {
            end(before + text.length());
        }
    }

    private static int four(String text, int from) {
        int four = 0;
        for (int i = from; i < from + 4; i++) {
            four = four << 8 | (i < text.length() ? text.charAt(i) : ' ');
        }
        return four;
    }

    int town(String text) {
        tape(text);
        return town();
    }

    int plan(String text) {
        tape(text);
        return plan();
    }

    int feed(int a, int b, int c, int d, int e) {
        return called().feed(a, b, c, d, e);
    }

    int end(int n) {
        return called().end(n);
    }

    int town() {
        return called().town();
    }

    int plan() {
        return called().plan();
    }

    int fault(int what) {
        return called().fault(what);
    }

    int minutes(int a, int b) {
        return called().minutes(a, b);
    }

    int right(int place, int many, int stroke) {
        return called().right(place, many, stroke);
    }

    int judge(int what) {
        return called().judge(what);
    }

    int value(int what) {
        return called().value(what);
    }

    int best(int what) {
        return called().best(what);
    }

    int bestAt(int what, int stroke, int person) {
        return called().bestAt(what, stroke, person);
    }

    int breaks(int what, int part) {
        return called().breaks(what, part);
    }

    int spare(int place, int what) {
        return called().spare(place, what);
    }

    int often(int n, int what) {
        return called().often(n, what);
    }

    int built(int minutes, int what, int part) {
        return called().built(minutes, what, part);
    }

    int meet(int a, int b, int place) {
        return called().meet(a, b, place);
    }

    int mend() {
        return called().mend();
    }

    int where(int person) {
        return called().where(person);
    }

    boolean send(int person, int place) {
        return called().send(person, place);
    }

    int strike() {
        return called().strike();
    }

    int count(int stroke, int place, int many) {
        return called().count(stroke, place, many);
    }

    boolean untell(int count) {
        return called().untell(count);
    }

    int later(int by) {
        return called().later(by);
    }

    int states(int stroke, int k) {
        return called().states(stroke, k);
    }

    int sure(int person, int place, int stroke, int k) {
        return called().sure(person, place, stroke, k);
    }

    int image(int box) {
        return called().image(box);
    }

    int back(int box) {
        return called().back(box);
    }

    int about(int what) {
        return called().about(what);
    }
}
