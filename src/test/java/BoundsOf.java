/** The base of all that hold tests of edges, so that these can be written in short. */
abstract class BoundsOf {
    static final int NONE = Bounds.NONE, BAD = Bounds.BAD, STATE = Bounds.STATE, FULL = Bounds.FULL;
    static final int NO_SUCH = Bounds.NO_SUCH, NOT_SO = Bounds.NOT_SO, BELOW_NONE = Bounds.BELOW_NONE;
    static final int NOTHING_THERE = Bounds.NOTHING_THERE, OUTSIDE = Bounds.OUTSIDE, UNLIKE = Bounds.UNLIKE;
    static final int MIN = Bounds.MIN, MAX = Bounds.MAX;

    static void is(String call, long got, long want) {
        Bounds.is(call, got, want);
    }

    static void yes(String what, boolean is) {
        Bounds.yes(what, is);
    }

    static void refused(String call, long want, Bounds.Hall hall, Bounds.Call c) {
        Bounds.refused(call, want, hall, c);
    }

    static void changesNothing(String call, Bounds.Hall hall, Bounds.Call c) {
        Bounds.changesNothing(call, hall, c);
    }

    static void range(String call, Bounds.Hall hall, long refusal, int least, int most, Bounds.CallOf c) {
        Bounds.range(call, hall, refusal, least, most, c);
    }

    static void both(String call, NumbersCalled x, Bounds.CallOf c, int want0, int want1) {
        Bounds.both(call, x, c, want0, want1);
    }
}
