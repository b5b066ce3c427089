import java.util.Arrays;

/** What the tests of the edges share: an answer, a range, a call that is refused, one that only asks. */
final class Bounds {
    static final int NONE = -1, BAD = -2, STATE = -3, FULL = -4, NO_SUCH = -5, NOT_SO = -7;
    static final int NOTHING_THERE = -11, OUTSIDE = -12, UNLIKE = -13, BELOW_NONE = -14;
    static final long NO = -4611686018427387904L;
    static final int MIN = Integer.MIN_VALUE, MAX = Integer.MAX_VALUE;

    /** Makes a hall; each time a new one, and always the same. */
    interface Hall {
        NumbersCalled make();
    }

    interface Call {
        long on(NumbersCalled x);
    }

    interface CallOf {
        long on(NumbersCalled x, int v);
    }

    private static final Due due = new Due("BoundsTest");
    private static String test = "";
    private static int answers = 0;

    private Bounds() {
    }

    static void begin(String name) {
        test = name;
        answers = 0;
    }

    /** How many answers the test has looked at. */
    static int looked() {
        return answers;
    }

    static void end() {
        due.end();
    }

    static void is(String call, long got, long want) {
        answers++;
        due.is(test + ": " + call, got, want);
    }

    static void yes(String what, boolean is) {
        is(what, is ? 1 : 0, 1);
    }

    /** It is refused so, and all that can be seen of the hall is as if it had not been called. */
    static void refused(String call, long want, Hall hall, Call c) {
        is(call, c.on(hall.make()), want);
        changesNothing(call, hall, c);
    }

    static void changesNothing(String call, Hall hall, Call c) {
        long[] is = State.behind(hall, c);
        long[] was = State.of(hall);
        int at = Arrays.mismatch(is, was);
        is(call + " changes nothing (what State tells at " + at + ")", at, -1);
    }

    /** On both sides the last value that is allowed and the first that is not, and those far out. */
    static void range(String call, Hall hall, long refusal, int least, int most, CallOf c) {
        for (int v : new int[] {least - 1, most + 1, MIN, MAX}) {
            refused(call + " by " + v, refusal, hall, x -> c.on(x, v));
        }
        for (int v : new int[] {least, most}) {
            yes(call + " by " + v + " is allowed", c.on(hall.make(), v) != refusal);
        }
    }

    /** Both that best() and its like tell: what 0, and what 1. */
    static void both(String call, NumbersCalled x, CallOf c, int want0, int want1) {
        is(call + ", what 0", c.on(x, 0), want0);
        is(call + ", what 1", c.on(x, 1), want1);
    }
}
