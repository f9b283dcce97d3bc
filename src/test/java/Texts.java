/** Texts that several tests read, and what is due of a text's reading. */
final class Texts {
    static final String THREE = "place a;place b;place c;way a b minutes 30;way b c minutes 50;";
    /** Four persons at two of three places, an errand at the third. */
    static final String FOUR = THREE + "person p at a hire 1;person q at a hire 2;person r at b hire 3;"
            + "person s at b hire 4;errand p at c stroke 2 worth 9;strokes 2;";
    static final String SIX_PLACES = "place a;place b;place c;place d;place e;place f;";
    /** The words that stand for themselves in a town's text. */
    static final String[] OWN_WORDS = {"place", "empty", "way", "minutes", "person", "at", "hire", "dog", "errand",
        "stroke", "worth", "hour", "strokes", "rule", "or", "and", "not", "here", "dogs"};
    /** Numbers that no call takes, but for k: too small or too large by far, some of them small times 6, 8 or 16. */
    static final int[] FAR_OFF = {Integer.MIN_VALUE, Integer.MIN_VALUE + 1, -1000000, -65536, -256, -2, 1000000, 65536,
        1 << 28, (1 << 29) + 1, 0x2AAAAAAB, 1 << 30, Integer.MAX_VALUE - 1, Integer.MAX_VALUE};
    /** And such that are no number of a place, a person, a stroke, a box and so on, whatever bits are cut off. */
    static final int[] NO_INDEX = {Integer.MIN_VALUE, Integer.MIN_VALUE + 1, -1000000, -65536, -256, -255, -32, -31, -2,
        31, 32, 33, 63, 64, 65, 255, 256, 257, 65536, 65537, 1000000, 1 << 28, (1 << 29) + 1, 0x2AAAAAAB, 1 << 30,
        Integer.MAX_VALUE - 1, Integer.MAX_VALUE};

    /** So many persons, p and on, all at place a. */
    static String persons(int many, int hire) {
        StringBuilder text = new StringBuilder();
        for (int i = 0; i < many; i++) {
            text.append("person ").append((char) ('p' + i)).append(" at a hire ").append(hire).append(';');
        }
        return text.toString();
    }

    /** All fifteen ways of six places. */
    static String allWays(int minutes) {
        StringBuilder text = new StringBuilder();
        for (char a = 'a'; a <= 'f'; a++) {
            for (char b = 'a'; b < a; b++) {
                text.append("way ").append(a).append(' ').append(b).append(" minutes ").append(minutes).append(';');
            }
        }
        return text.toString();
    }

    static Used goodTown(String text) {
        Used x = new Used();
        Check.due("town() of " + text, x.town(text) >= 0, true);
        Check.due("fault(0) of " + text, x.fault(0), 0);
        Check.due("fault(1) of " + text, x.fault(1), EvenTown.NONE);
        Check.due("the tape behind " + text, x.about(7), 0);
        return x;
    }

    static void faultyTown(String text, int kind, int at) {
        Used x = new Used();
        Check.due("town() of " + text, x.town(text), EvenTown.NONE);
        Check.due("fault(0) of " + text, x.fault(0), kind);
        Check.due("fault(1) of " + text, x.fault(1), at);
        Check.due("the tape behind " + text, x.about(7), 0);
    }

    static void faultyPlan(String town, String text, int kind, int at) {
        Used x = Used.of(town);
        Check.due("plan() of " + text, x.plan(text), EvenTown.NONE);
        Check.due("fault(0) of " + text, x.fault(0), kind);
        Check.due("fault(1) of " + text, x.fault(1), at);
        Check.due("the tape behind " + text, x.about(7), 0);
    }

    private Texts() {
    }
}
