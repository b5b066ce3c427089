/** Promises 37 to 40: the edges of days by lot, and of images. */
final class LotBounds extends BoundsOf {
    private static final long NO = Bounds.NO;

    /** How much later the ASKER comes, by the rule of the document. */
    private static int later(int seed, int a) {
        long lot = seed + 1L;
        for (int i = 0; i <= a; i++) {
            lot = lot * 48271 % 2147483647;
        }
        return (int) (lot % 21) - 10;
    }

    /** One counter, and one who takes a minute. */
    private static NumbersCalled alone(int comes) {
        NumbersCalled x = Halls.one();
        x.pull(0, 10, comes);
        return x;
    }

    // ---- promise 37

    @Says({"DRAWN by a SEED (0 .. 99999)", "BAD."})
    static void promise37_seeds() {
        range("drawn(seed, 0)", Halls.SOME, BAD, 0, 99999, (x, seed) -> x.drawn(seed, 0));
    }

    @Says({"DRAWN: what sum() tells.", "BAD."})
    static void promise37_whats() {
        range("drawn(5, what)", Halls.SOME, BAD, 0, 7, (x, what) -> x.drawn(5, what));
    }

    @Says("What is asked changes nothing, but where it is told.")
    static void promise37_asksOnly() {
        changesNothing("drawn(99999, 1)", Halls.SOME, x -> x.drawn(99999, 1));
    }

    @Says({"LOTS: the first is (SEED and 1) times 48271 modulo 2147483647,",
        "For each ASKER, by numbers, one: one COMES LOT modulo 21, less 10, minutes later"})
    static void promise37_tenEarlierToTenLater() {
        boolean[] seen = new boolean[21];
        NumbersCalled x = alone(60);
        for (int seed = 0; seed < 200; seed++) {
            is("drawn(" + seed + ", 3)", x.drawn(seed, 3), 60 + later(seed, 0) + 1);
            seen[later(seed, 0) + 10] = true;
        }
        is("drawn(99999, 3)", x.drawn(99999, 3), 60 + later(99999, 0) + 1);
        is("drawn(99998, 3)", x.drawn(99998, 3), 60 + later(99998, 0) + 1);
        for (int l = 0; l < 21; l++) {
            yes("one seed by " + (l - 10), seen[l]);
        }
    }

    @Says("minutes later (0 .. 119, else the bound)")
    static void promise37_notAheadOfZero() {
        for (int comes : new int[] {0, 1, 9, 10, 11}) {
            NumbersCalled x = alone(comes);
            for (int seed = 0; seed < 60; seed++) {
                is("drawn(" + seed + ", 3) at " + comes, x.drawn(seed, 3), Math.max(0, comes + later(seed, 0)) + 1);
            }
        }
    }

    @Says("minutes later (0 .. 119, else the bound)")
    static void promise37_notBehind119() {
        for (int comes : new int[] {108, 109, 110, 118, 119}) {
            NumbersCalled x = alone(comes);
            for (int seed = 0; seed < 60; seed++) {
                is("drawn(" + seed + ", 3) at " + comes, x.drawn(seed, 3), Math.min(119, comes + later(seed, 0)) + 1);
            }
        }
    }

    @Says("each further one the last times 48271 modulo 2147483647.")
    static void promise37_theSixteenthLot() {
        // all others pull what nobody does
        NumbersCalled x = Halls.one();
        Halls.pull(x, 15, 0, 1010, 60);
        x.pull(0, 10, 60);
        for (int seed : new int[] {0, 1, 2, 3, 44487, 44488, 44489, 99998, 99999}) {
            is("drawn(" + seed + ", 3)", x.drawn(seed, 3), 60 + later(seed, 15) + 1);
            is("drawn(" + seed + ", 6)", x.drawn(seed, 6), 15);
        }
    }

    @Says("DRAWN: what sum() tells.")
    static void promise37_nobodyAndAsMoved() {
        for (int what = 0; what < 8; what++) {
            is("drawn(0, " + what + "), nobody", new NumbersCalled().drawn(0, what), 0);
        }
        for (int seed : new int[] {0, 777, 99999}) {
            NumbersCalled x = Halls.SOME.make();
            NumbersCalled y = Halls.SOME.make();
            for (int a = 0; a < Halls.SOME_ASKERS; a++) {
                y.move(a, Math.max(0, Math.min(119, y.told(a, 4) + later(seed, a))));
            }
            for (int what = 0; what < 8; what++) {
                is("drawn(" + seed + ", " + what + ")", x.drawn(seed, what), y.sum(what));
            }
        }
    }

    // ---- promise 38

    @Says("NO: none such.")
    static void promise38_refusals() {
        range("odds(seed, 1, 0, 0)", Halls.SOME, NO, 0, 99999, (x, seed) -> x.odds(seed, 1, 0, 0));
        range("odds(0, seeds, 0, 0)", Halls.SOME, NO, 1, 20, (x, seeds) -> x.odds(0, seeds, 0, 0));
        range("odds(0, 1, by, 0)", Halls.SOME, NO, 0, 999, (x, by) -> x.odds(0, 1, by, 0));
        range("odds(0, 1, 0, part)", Halls.SOME, NO, 0, 1, (x, part) -> x.odds(0, 1, 0, part));
    }

    @Says("What is asked changes nothing, but where it is told.")
    static void promise38_asksOnly() {
        changesNothing("odds(0, 20, 100, 0)", Halls.SOME, x -> x.odds(0, 20, 100, 0));
    }

    private static void odds(NumbersCalled x, int seed, int seeds, int by, int good) {
        int d = 20;
        while (good % d != 0 || seeds % d != 0) {
            d--;
        }
        String call = "odds(" + seed + ", " + seeds + ", " + by + ", ";
        is(call + "0)", x.odds(seed, seeds, by, 0), good / d);
        is(call + "1)", x.odds(seed, seeds, by, 1), seeds / d);
    }

    @Says({"In how many of so many (1 .. 20) seeds, SEED and each 1 more (they may pass 99999), DRAWN,",
        "part 0 above, 1 below the line, in lowest terms."})
    static void promise38_oneToTwentySeeds() {
        NumbersCalled x = alone(60);
        for (int seed : new int[] {0, 500, 99979, 99980, 99981, 99990, 99998, 99999}) {
            for (int seeds = 1; seeds <= 20; seeds++) {
                int good = 0;
                for (int i = 0; i < seeds; i++) {
                    good += later(seed + i, 0) <= 0 ? 1 : 0;
                }
                odds(x, seed, seeds, 61, good);
            }
            x = alone(60);
        }
    }

    @Says("part 0 above, 1 below the line, in lowest terms.")
    static void promise38_noneAndAll() {
        NumbersCalled x = alone(60);
        for (int seeds = 1; seeds <= 20; seeds++) {
            is("odds, none, above", x.odds(0, seeds, 50, 0), 0);
            is("odds, none, below", x.odds(0, seeds, 50, 1), 1);
            is("odds, all, above", x.odds(0, seeds, 71, 0), 1);
            is("odds, all, below", x.odds(0, seeds, 71, 1), 1);
        }
        is("odds, nobody, above", new NumbersCalled().odds(0, 20, 0, 0), 1);
        is("odds, nobody, below", new NumbersCalled().odds(0, 20, 0, 1), 1);
    }

    @Says("the latest end is no later than by (0 .. 999), and nobody waits yet")
    static void promise38_noLaterThanBy() {
        NumbersCalled x = alone(60);
        for (int seed = 0; seed < 30; seed++) {
            int end = 61 + later(seed, 0);
            odds(x, seed, 1, end, 1);
            odds(x, seed, 1, end - 1, 0);
        }
    }

    @Says("the latest end is no later than by (0 .. 999), and nobody waits yet")
    static void promise38_oneWaitsYet() {
        NumbersCalled x = alone(60);
        x.pull(0, 1010, 60);
        odds(x, 0, 20, 999, 0);
        x.change(0, 0, 3);
        odds(x, 0, 20, 999, 20);
        x.set(2, 0);
        odds(x, 0, 20, 0, 20);
    }

    // ---- promise 39

    @Says("AN IMAGE is kept: how many ASKERS.")
    static void promise39_noneToSixteen() {
        NumbersCalled x = new NumbersCalled();
        for (int a = 0; a <= 16; a++) {
            is("image()", x.image(), a);
            is("back()", x.back(), a);
            x.pull(0, 10, 0);
        }
    }

    @Says("AN IMAGE is kept: how many ASKERS.")
    static void promise39_theLatestOneIsKept() {
        NumbersCalled x = alone(5);
        x.image();
        x.move(0, 6);
        x.image();
        x.move(0, 7);
        is("back()", x.back(), 1);
        is("told(0, 4)", x.told(0, 4), 6);
        is("back() again", x.back(), 1);
        is("told(0, 4)", x.told(0, 4), 6);
    }

    @Says("AN IMAGE is kept: how many ASKERS.")
    static void promise39_nothingElseChanges() {
        NumbersCalled x = Halls.FULL.make();
        NumbersCalled y = Halls.FULL.make();
        is("image()", y.image(), 16);
        for (int what = 0; what < 8; what++) {
            is("count(" + what + ")", y.count(what), x.count(what));
            is("sum(" + what + ")", y.sum(what), x.sum(what));
        }
    }

    // ---- promise 40

    @Says("STATE: there is none.")
    static void promise40_noImage() {
        refused("back(), empty", STATE, Halls.EMPTY, NumbersCalled::back);
        refused("back(), one counter", STATE, Halls::one, NumbersCalled::back);
        // the image went with its latest asker
        refused("back() behind forget()", STATE, () -> {
            NumbersCalled x = Halls.SOME.make();
            x.forget();
            return x;
        }, NumbersCalled::back);
    }

    @Says("ASKERS, COUNTERS that came since are none: how many ASKERS there are.")
    static void promise40_fromFullToNothing() {
        NumbersCalled x = new NumbersCalled();
        x.image();
        for (int c = 0; c < 4; c++) {
            x.counter(15, 9);
        }
        Halls.pull(x, 16, 0, 10, 0);
        is("back()", x.back(), 0);
        is("count(3)", x.count(3), 0);
        is("count(4)", x.count(4), 0);
        is("counterTold(0, 0)", x.counterTold(0, 0), NO_SUCH);
        is("told(0, 0)", x.told(0, 0), NO_SUCH);
        is("taken(3, 6)", x.taken(3, 6), NOTHING_THERE);
        is("taken(19, 0)", x.taken(19, 0), NOTHING_THERE);
        is("forget()", x.forget(), STATE);
        is("back() again", x.back(), 0);
        is("counter", x.counter(1, 1), 0);
        is("pull", x.pull(0, 10, 0), 0);
    }

    @Says("All that it keeps is as in THE IMAGE")
    static void promise40_fullAsItWas() {
        NumbersCalled x = Halls.FULL.make();
        is("move", x.move(0, 100), 0);
        for (int c = 0; c < 4; c++) {
            x.change(c, 0, 0);
            x.change(c, 1, 9);
            x.change(c, 2, 119);
        }
        x.set(0, 3);
        x.set(1, 9);
        x.set(2, 0);
        x.force(0);
        is("back()", x.back(), 16);
        is("told(0, 4)", x.told(0, 4), 0);
        is("told(15, 4)", x.told(15, 4), 105);
        int[] want = {0, 3, 120, 4, 16, 6, 5, 160};
        for (int what = 0; what < 8; what++) {
            is("count(" + what + ")", x.count(what), want[what]);
        }
        for (int c = 0; c < 4; c++) {
            is("letters", x.counterTold(c, 0), 3 + c);
            is("slow", x.counterTold(c, 1), c);
            is("break", x.counterTold(c, 2), -1);
        }
    }

    @Says("AN IMAGE keeps all that is told of COUNTERS, how many they are, WHO, CALLED, STOP, how many ASKERS there are, when they COME, THE LAW.")
    static void promise40_textsTapeAndSheetsStay() {
        NumbersCalled x = alone(5);
        x.image();
        is("text()", Due.text(x, "takes 7;waits 7;minds 7;"), 1);
        x.force(1);
        Due.feed(x, "abc");
        x.sheet(0, 0, 2);
        is("back()", x.back(), 1);
        is("count(5): texts", x.count(5), 2);
        is("count(6): the law", x.count(6), 0);
        is("count(7): the tape", x.count(7), 3);
        is("cell of the sheet", x.cell(0, 1, 0), 1);
    }
}
