/** Promises 1 to 6 and 9: the edges of the hall and of the law. */
final class HallBounds extends BoundsOf {
    // ---- promise 1

    @Says("No COUNTERS, ASKERS.")
    static void promise01_noCountersNoAskers() {
        NumbersCalled x = new NumbersCalled();
        is("count(3)", x.count(3), 0);
        is("count(4)", x.count(4), 0);
        is("counterTold(0, 0)", x.counterTold(0, 0), NO_SUCH);
        is("told(0, 0)", x.told(0, 0), NO_SUCH);
        is("taken(0, 6)", x.taken(0, 6), NOTHING_THERE);
        is("taken(4, 0)", x.taken(4, 0), NOTHING_THERE);
        is("forget()", x.forget(), STATE);
    }

    @Says({"0 at first", "3 at first", "120 at first"})
    static void promise01_whoCalledStopAtFirst() {
        NumbersCalled x = new NumbersCalled();
        is("count(0)", x.count(0), 0);
        is("count(1)", x.count(1), 3);
        is("count(2)", x.count(2), 120);
    }

    @Says("TEXT 0, at first, and THE LAW: takes base + slow ; waits 30 + more * 5 ; minds wait ;")
    static void promise01_textZeroIsTheLaw() {
        NumbersCalled x = new NumbersCalled();
        is("count(5)", x.count(5), 1);
        is("count(6)", x.count(6), 0);
        is("count(7)", x.count(7), 0);
        x.counter(1, 9);
        x.pull(0, 111, 0);
        is("takes 11 + 9", x.asks(0, 0, 0, 0, 0), 20);
        is("waits 30 + 1 * 5: there at 35", x.asks(0, 0, 35, 0, 1), 1);
        is("waits 30 + 1 * 5: not there at 36", x.asks(0, 0, 36, 0, 1), 0);
        is("minds wait", x.asks(0, 0, 321, 5, 2), 321);
    }

    @Says("or missing (as all are at first)")
    static void promise01_allSheetsAreMissing() {
        for (int s = 0; s < 4; s++) {
            is("cell(" + s + ", 0, 0)", new NumbersCalled().cell(s, 0, 0), NOTHING_THERE);
        }
    }

    @Says("No COUNTERS, ASKERS.")
    static void promise01_noImage() {
        is("back()", new NumbersCalled().back(), STATE);
    }

    @Says({"REFUSALS, of several the first one told",
        "NONE there is no such thing; BAD a number is not as told; STATE as told; FULL.",
        "They change nothing, but where it is told."})
    static void promise01_theNumbersOfRefusals() {
        is("NONE", NumbersCalled.NONE, -1);
        is("BAD", NumbersCalled.BAD, -2);
        is("STATE", NumbersCalled.STATE, -3);
        is("FULL", NumbersCalled.FULL, -4);
        is("NO", NumbersCalled.NO, -4611686018427387904L);
        is("set(3, 0)", new NumbersCalled().set(3, 0), -1);
        is("count(8)", new NumbersCalled().count(8), -2);
        is("back()", new NumbersCalled().back(), -3);
        is("counter, full", Halls.FULL.make().counter(0, 0), -4);
        is("over(41, 0, 0)", new NumbersCalled().over(41, 0, 0), -4611686018427387904L);
    }

    // ---- promise 2

    @Says({"LETTERS 0 .. 3.", "LETTERS (bits) it DOES", "BAD; FULL."})
    static void promise02_lettersAreFourBits() {
        range("counter(letters, 0)", Halls.SOME, BAD, 0, 15, (x, v) -> x.counter(v, 0));
        NumbersCalled x = new NumbersCalled();
        x.counter(0, 0);
        x.counter(15, 0);
        is("none", x.counterTold(0, 0), 0);
        is("all four", x.counterTold(1, 0), 15);
    }

    @Says({"SLOW (0 .. 9)", "BAD; FULL."})
    static void promise02_slowIsZeroToNine() {
        range("counter(1, slow)", Halls.SOME, BAD, 0, 9, (x, v) -> x.counter(1, v));
        NumbersCalled x = new NumbersCalled();
        x.counter(0, 0);
        x.counter(0, 9);
        is("the least", x.counterTold(0, 1), 0);
        is("the most", x.counterTold(1, 1), 9);
    }

    @Says({"A COUNTER (LETTERS, SLOW): its number.", "COUNTERS are numbered from 0 on, 4 at most"})
    static void promise02_numbersFromZeroToThree() {
        NumbersCalled x = new NumbersCalled();
        for (int c = 0; c < 4; c++) {
            is("counter(1, 0)", x.counter(1, 0), c);
        }
        is("count(3)", x.count(3), 4);
    }

    @Says({"COUNTERS are numbered from 0 on, 4 at most", "BAD; FULL."})
    static void promise02_theFifthIsFull() {
        refused("counter(15, 9)", FULL, Halls.FULL, x -> x.counter(15, 9));
    }

    @Says("BAD; FULL.")
    static void promise02_badComesAheadOfFull() {
        refused("counter(16, 0)", BAD, Halls.FULL, x -> x.counter(16, 0));
        refused("counter(-1, 0)", BAD, Halls.FULL, x -> x.counter(-1, 0));
        refused("counter(0, 10)", BAD, Halls.FULL, x -> x.counter(0, 10));
        refused("counter(0, -1)", BAD, Halls.FULL, x -> x.counter(0, -1));
    }

    @Says("(0 .. 119; -1: none, as at first)")
    static void promise02_noBreakAtFirst() {
        NumbersCalled x = Halls.one();
        is("counterTold(0, 2)", x.counterTold(0, 2), -1);
        is("IDLE in all minutes", x.idle(0), 240);
    }

    @Says("(0 .. 119; -1: none, as at first)")
    static void promise02_noBreakAtFirstBehindOneThatIsGone() {
        NumbersCalled x = new NumbersCalled();
        x.image();
        x.counter(1, 0);
        x.change(0, 2, 0);
        x.back();
        x.counter(2, 5);
        is("counterTold(0, 2)", x.counterTold(0, 2), -1);
        is("counterTold(0, 0)", x.counterTold(0, 0), 2);
        is("counterTold(0, 1)", x.counterTold(0, 1), 5);
    }

    // ---- promise 3

    @Says("-5: no such COUNTER; -7: what, v.")
    static void promise03_counters() {
        range("change(c, 0, 0)", Halls.SOME, NO_SUCH, 0, 1, (x, c) -> x.change(c, 0, 0));
        range("change(c, 0, 0), full", Halls.FULL, NO_SUCH, 0, 3, (x, c) -> x.change(c, 0, 0));
        refused("change(0, 0, 0), empty", NO_SUCH, Halls.EMPTY, x -> x.change(0, 0, 0));
    }

    @Says({"What 0 LETTERS, 1 SLOW, 2 BREAK of a COUNTER becomes v: what was.", "-5: no such COUNTER; -7: what, v."})
    static void promise03_whats() {
        range("change(0, what, 0)", Halls.SOME, NOT_SO, 0, 2, (x, what) -> x.change(0, what, 0));
    }

    @Says({"LETTERS 0 .. 3.", "-5: no such COUNTER; -7: what, v."})
    static void promise03_letters() {
        range("change(0, 0, v)", Halls.SOME, NOT_SO, 0, 15, (x, v) -> x.change(0, 0, v));
        becomes(0, 5, 0, 15);
    }

    @Says({"SLOW (0 .. 9)", "-5: no such COUNTER; -7: what, v."})
    static void promise03_slow() {
        range("change(0, 1, v)", Halls.SOME, NOT_SO, 0, 9, (x, v) -> x.change(0, 1, v));
        becomes(1, 5, 0, 9);
    }

    @Says({"(0 .. 119; -1: none, as at first)", "-5: no such COUNTER; -7: what, v."})
    static void promise03_breakOrNone() {
        for (int v : new int[] {-2, 120, MIN, MAX}) {
            refused("change(0, 2, " + v + ")", NOT_SO, Halls.SOME, x -> x.change(0, 2, v));
        }
        becomes(2, -1, 0, 119);
        becomes(2, -1, -1, 119);
    }

    /** From what was to the least, to the most, and back: what was, and what it is. */
    private static void becomes(int what, int was, int least, int most) {
        NumbersCalled x = Halls.SOME.make();
        is("change(0, " + what + ", " + least + ")", x.change(0, what, least), was);
        is("change(0, " + what + ", " + most + ")", x.change(0, what, most), least);
        is("change(0, " + what + ", " + least + ") again", x.change(0, what, least), most);
        is("counterTold(0, " + what + ")", x.counterTold(0, what), least);
    }

    @Says("-5: no such COUNTER; -7: what, v.")
    static void promise03_noSuchCounterComesFirst() {
        refused("change(2, 0, 16)", NO_SUCH, Halls.SOME, x -> x.change(2, 0, 16));
        refused("change(-1, 3, 0)", NO_SUCH, Halls.SOME, x -> x.change(-1, 3, 0));
        refused("change(2, 3, 99)", NO_SUCH, Halls.SOME, x -> x.change(2, 3, 99));
    }

    // ---- promise 4

    @Says("-5: no such COUNTER; -7: what.")
    static void promise04_counters() {
        range("counterTold(c, 0)", Halls.SOME, NO_SUCH, 0, 1, (x, c) -> x.counterTold(c, 0));
        range("counterTold(c, 0), full", Halls.FULL, NO_SUCH, 0, 3, (x, c) -> x.counterTold(c, 0));
        refused("counterTold(0, 0), empty", NO_SUCH, Halls.EMPTY, x -> x.counterTold(0, 0));
    }

    @Says({"Likewise what it is.", "-5: no such COUNTER; -7: what."})
    static void promise04_whats() {
        range("counterTold(0, what)", Halls.SOME, NOT_SO, 0, 2, (x, what) -> x.counterTold(0, what));
        NumbersCalled x = Halls.SOME.make();
        int[] want = {3, 0, 30};
        for (int what = 0; what < 3; what++) {
            is("counterTold(1, " + what + ")", x.counterTold(1, what), want[what]);
        }
    }

    @Says("-5: no such COUNTER; -7: what.")
    static void promise04_noSuchCounterComesFirst() {
        refused("counterTold(2, 3)", NO_SUCH, Halls.SOME, x -> x.counterTold(2, 3));
        refused("counterTold(-1, -1)", NO_SUCH, Halls.SOME, x -> x.counterTold(-1, -1));
    }

    @Says("What is asked changes nothing, but where it is told.")
    static void promise04_asksOnly() {
        changesNothing("counterTold(1, 2)", Halls.SOME, x -> x.counterTold(1, 2));
    }

    // ---- promise 5

    @Says({"What 0 WHO, 1 CALLED, 2 STOP becomes v: what was.", "NONE: what; BAD: v."})
    static void promise05_whats() {
        range("set(what, 1)", Halls.SOME, NONE, 0, 2, (x, what) -> x.set(what, 1));
    }

    @Says({"WHO is called first (0 .. 3;", "NONE: what; BAD: v."})
    static void promise05_who() {
        range("set(0, v)", Halls.SOME, BAD, 0, 3, (x, v) -> x.set(0, v));
        isSet(0, 2, 0, 3);
    }

    @Says({"how often one is CALLED (1 .. 9;", "NONE: what; BAD: v."})
    static void promise05_called() {
        range("set(1, v)", Halls.SOME, BAD, 1, 9, (x, v) -> x.set(1, v));
        isSet(1, 4, 1, 9);
    }

    @Says({"the minute from which on numbers STOP (0 .. 120;", "NONE: what; BAD: v."})
    static void promise05_stop() {
        range("set(2, v)", Halls.SOME, BAD, 0, 120, (x, v) -> x.set(2, v));
        isSet(2, 90, 0, 120);
    }

    private static void isSet(int what, int was, int least, int most) {
        NumbersCalled x = Halls.SOME.make();
        is("set(" + what + ", " + least + ")", x.set(what, least), was);
        is("set(" + what + ", " + most + ")", x.set(what, most), least);
        is("count(" + what + ")", x.count(what), most);
        is("set(" + what + ", " + most + ") again", x.set(what, most), most);
    }

    @Says("NONE: what; BAD: v.")
    static void promise05_noneComesFirst() {
        refused("set(3, -1)", NONE, Halls.SOME, x -> x.set(3, -1));
        refused("set(-1, 999)", NONE, Halls.SOME, x -> x.set(-1, 999));
    }

    // ---- promise 6

    @Says("BAD.")
    static void promise06_whats() {
        range("count(what)", Halls.SOME, BAD, 0, 7, (x, what) -> x.count(what));
    }

    @Says("0 .. 2 as of set(), 3 COUNTERS, 4 ASKERS, 5 TEXTS, 6 THE LAW, 7 bytes of THE TAPE.")
    static void promise06_emptyAndFull() {
        int[] empty = {0, 3, 120, 0, 0, 1, 0, 0};
        int[] full = {0, 3, 120, 4, 16, 6, 5, 160};
        for (int what = 0; what < 8; what++) {
            is("count(" + what + "), empty", Halls.EMPTY.make().count(what), empty[what]);
            is("count(" + what + "), full", Halls.FULL.make().count(what), full[what]);
        }
    }

    @Says("What is asked changes nothing, but where it is told.")
    static void promise06_asksOnly() {
        changesNothing("count(7)", Halls.SOME, x -> x.count(7));
    }

    // ---- promise 9

    @Says({"A TEXT is THE LAW: which was.", "BAD."})
    static void promise09_texts() {
        range("force(t), one text", Halls.EMPTY, BAD, 0, 0, (x, t) -> x.force(t));
        range("force(t), three", Halls.SOME, BAD, 0, 2, (x, t) -> x.force(t));
        range("force(t), six", Halls.FULL, BAD, 0, 5, (x, t) -> x.force(t));
    }

    @Says("A TEXT is THE LAW: which was.")
    static void promise09_tellsWhichWas() {
        NumbersCalled x = Halls.FULL.make();
        is("force(0)", x.force(0), 5);
        is("force(5)", x.force(5), 0);
        is("force(5) again", x.force(5), 5);
        is("count(6)", x.count(6), 5);
    }

    @Says("A TEXT is THE LAW: which was.")
    static void promise09_theLastTextIsRead() {
        NumbersCalled x = Halls.sixTexts(Halls.one());
        x.pull(0, 110, 0);
        x.force(5);
        is("TAKES by text 5", x.asks(0, 0, 0, 0, 0), 5);
        x.force(0);
        is("TAKES by text 0", x.asks(0, 0, 0, 0, 0), 11);
    }
}
