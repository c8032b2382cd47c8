/** The names that the tests of bounds write often. */
abstract class Bounds {
    static final int NONE = Checks.NONE, BAD = Checks.BAD, STATE = Checks.STATE, FULL = Checks.FULL;
    static final int NOTHING = Checks.NOTHING, OUTSIDE = Checks.OUTSIDE, OTHER = Checks.OTHER, BELOW = Checks.BELOW;
    static final int NO_ANSWER = Checks.NO_ANSWER, NO_BEST = Checks.NO_BEST;
    static final int LOW = Checks.LOW, HIGH = Checks.HIGH;
    static final long NO = Checks.NO;

    static void about(int promise, String words) {
        Checks.about(promise, words);
    }
}
