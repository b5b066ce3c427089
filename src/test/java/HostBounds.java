/** Promises 41 to 45: the edges of the host. */
final class HostBounds extends BoundsOf {
    private static void put(NumbersCalled x, int s, int sort, int... numbers) {
        x.sheet(s, sort, numbers.length);
        for (int i = 0; i < numbers.length; i++) {
            x.cell(s, i, numbers[i]);
        }
    }

    /** The latest one, as it was pulled. */
    private static void latest(NumbersCalled x, int kind, int what, int minute) {
        int a = x.count(4) - 1;
        is("kind", x.told(a, 0), kind);
        is("what", 1000 * x.told(a, 1) + 10 * x.told(a, 2) + x.told(a, 3), what);
        is("minute", x.told(a, 4), minute);
    }

    /** Sheets 0, 1 ints of sizes 7, 5; 2 shorts of 5; 3 missing. */
    private static final Bounds.Hall SHEETS = () -> {
        NumbersCalled x = Halls.one();
        put(x, 0, 2, 0, 10, 20, 1, 20, 30, 2);
        put(x, 1, 2, 3, 30, 40, 4, 40);
        put(x, 2, 1, 5, 50, 60, 0, 60);
        return x;
    };

    // ---- promise 41

    @Says("BAD: SHEET, sort, n above 40; -14.")
    static void promise41_sheets() {
        range("sheet(s, 0, 1)", SHEETS, BAD, 0, 3, (x, s) -> x.sheet(s, 0, 1));
        range("sheet(s, -1, 0)", SHEETS, BAD, 0, 3, (x, s) -> x.sheet(s, -1, 0));
    }

    @Says({"A SHEET becomes a row of n of a sort, all 0, or missing (sort -1: n does not matter): 1.",
        "BAD: SHEET, sort, n above 40; -14."})
    static void promise41_sorts() {
        range("sheet(0, sort, 1)", SHEETS, BAD, -1, 2, (x, sort) -> x.sheet(0, sort, 1));
        for (int sort = -1; sort < 3; sort++) {
            is("sheet(0, " + sort + ", 1)", new NumbersCalled().sheet(0, sort, 1), 1);
        }
    }

    @Says({"of sort 0 bytes, 1 shorts, 2 ints, 40 at most", "BAD: SHEET, sort, n above 40; -14."})
    static void promise41_fortyAtMost() {
        for (int s = 0; s < 3; s++) {
            int sort = s;
            refused("41", BAD, SHEETS, x -> x.sheet(0, sort, 41));
            refused("the greatest", BAD, SHEETS, x -> x.sheet(0, sort, MAX));
            NumbersCalled x = new NumbersCalled();
            is("40", x.sheet(0, sort, 40), 1);
            is("its last place", x.cell(0, 39, 1), 1);
            is("behind it", x.cell(0, 40, 1), OUTSIDE);
        }
    }

    @Says("BAD: SHEET, sort, n above 40; -14.")
    static void promise41_belowNone() {
        for (int s = 0; s < 3; s++) {
            int sort = s;
            refused("-1", BELOW_NONE, SHEETS, x -> x.sheet(0, sort, -1));
            refused("the least", BELOW_NONE, SHEETS, x -> x.sheet(0, sort, MIN));
            NumbersCalled x = new NumbersCalled();
            is("none", x.sheet(0, sort, 0), 1);
            is("its first place", x.cell(0, 0, 1), OUTSIDE);
        }
    }

    @Says("BAD: SHEET, sort, n above 40; -14.")
    static void promise41_badComesAheadOfBelowNone() {
        refused("sheet(4, 0, -1)", BAD, SHEETS, x -> x.sheet(4, 0, -1));
        refused("sheet(-1, 0, -1)", BAD, SHEETS, x -> x.sheet(-1, 0, -1));
        refused("sheet(0, 3, -1)", BAD, SHEETS, x -> x.sheet(0, 3, -1));
        refused("sheet(0, -2, -1)", BAD, SHEETS, x -> x.sheet(0, -2, -1));
        refused("sheet(4, -1, -1)", BAD, SHEETS, x -> x.sheet(4, -1, -1));
    }

    @Says("or missing (sort -1: n does not matter)")
    static void promise41_missingWhateverNIs() {
        for (int n : new int[] {0, -1, 1, 40, 41, MIN, MAX}) {
            NumbersCalled x = SHEETS.make();
            is("sheet(0, -1, " + n + ")", x.sheet(0, -1, n), 1);
            is("cell of it", x.cell(0, 0, 0), NOTHING_THERE);
            is("again", x.sheet(0, -1, n), 1);
            is("cell of another", x.cell(1, 0, 0), 1);
        }
    }

    @Says("A SHEET becomes a row of n of a sort, all 0")
    static void promise41_allZeroAgain() {
        NumbersCalled x = Halls.one();
        for (int sort = 0; sort < 3; sort++) {
            put(x, 0, 2, 5, 10, 119);
            x.sheet(0, sort, 3);
            is("pulls of zeros", x.pulls(0, sort, 0, 1), 0);
            x.cell(0, 1, 10);
            is("pulls of 0, 10, 0", x.pulls(0, sort, 0, 1), 1);
            latest(x, 0, 10, 0);
        }
    }

    // ---- promise 42

    @Says("The host's: -11 nothing there, -12 a place outside, -13 of another sort or KIND, -14 a size below 0.")
    static void promise41_theHostsRefusals() {
        NumbersCalled x = Halls.one();
        is("nothing there", x.cell(0, 0, 0), -11);
        is("a size below 0", x.sheet(0, 0, -1), -14);
        x.sheet(0, 0, 1);
        is("a place outside", x.cell(0, 1, 0), -12);
        is("of another sort", x.pulls(0, 1, 0, 1), -13);
        is("of another kind", x.taken(0, 0), -13);
    }

    @Says("BAD: SHEET; -11; -12.")
    static void promise42_sheets() {
        for (int s : new int[] {-1, 4, MIN, MAX}) {
            refused("cell(" + s + ", 0, 0)", BAD, SHEETS, x -> x.cell(s, 0, 0));
            refused("cell(" + s + ", -1, 0)", BAD, SHEETS, x -> x.cell(s, -1, 0));
        }
        is("cell(0, 0, 0)", SHEETS.make().cell(0, 0, 0), 1);
        refused("cell(3, 0, 0), missing", NOTHING_THERE, SHEETS, x -> x.cell(3, 0, 0));
        refused("cell(3, -1, 0), missing", NOTHING_THERE, SHEETS, x -> x.cell(3, -1, 0));
    }

    @Says("BAD: SHEET; -11; -12.")
    static void promise42_places() {
        int[] last = {6, 4, 4};
        for (int s = 0; s < 3; s++) {
            int sheet = s;
            range("cell(" + s + ", i, 9)", SHEETS, OUTSIDE, 0, last[s], (x, i) -> x.cell(sheet, i, 9));
        }
    }

    @Says("BAD: SHEET; -11; -12.")
    static void promise42_emptyAndFullRow() {
        for (int s = 0; s < 3; s++) {
            int sort = s;
            Bounds.Hall empty = () -> {
                NumbersCalled x = new NumbersCalled();
                x.sheet(0, sort, 0);
                return x;
            };
            refused("cell(0, 0, 1), an empty row", OUTSIDE, empty, x -> x.cell(0, 0, 1));
            refused("cell(0, -1, 1), an empty row", OUTSIDE, empty, x -> x.cell(0, -1, 1));
        }
        for (int s = 0; s < 4; s++) {
            int sheet = s;
            range("cell(" + s + ", i, 9), full", Halls.FULL, OUTSIDE, 0, 39, (x, i) -> x.cell(sheet, i, 9));
        }
    }

    @Says("Number i of a SHEET becomes v (of bytes, shorts its lowest 8, 16 bits): 1.")
    static void promise42_eightAndSixteenBits() {
        // what is put, and what it is of bytes, shorts, ints: read as the minute, 0 .. 119
        int[] put = {119, 256, 256 + 119, -256 + 5, 65536, 65536 + 7, -65536 + 8, MIN, MIN + 9, 127, 128, 255, -1, MAX};
        int[] bytes = {119, 0, 119, 5, 0, 7, 8, 0, 9, -1, -1, -1, -1, -1};
        int[] shorts = {119, -1, -1, -1, 0, 7, 8, 0, 9, -1, -1, -1, -1, -1};
        int[] ints = {119, -1, -1, -1, -1, -1, -1, -1, -1, -1, -1, -1, -1, -1};
        for (int i = 0; i < put.length; i++) {
            minuteOf(put[i], 0, bytes[i]);
            minuteOf(put[i], 1, shorts[i]);
            minuteOf(put[i], 2, ints[i]);
        }
    }

    /** want -1: it is no minute. */
    private static void minuteOf(int v, int sort, int want) {
        NumbersCalled x = new NumbersCalled();
        x.sheet(0, sort, 3);
        x.cell(0, 1, 10);
        is("cell(0, 2, " + v + ")", x.cell(0, 2, v), 1);
        int came = x.pulls(0, sort, 0, 1);
        is("one of sort " + sort + " comes by " + v, came == 1 ? x.told(0, 4) : -1, want);
    }

    // ---- promise 43

    @Says("BAD: SHEETS; -11; -13: unlike sorts; -12 (n below 0, too).")
    static void promise43_sheets() {
        for (int s : new int[] {-1, 4, MIN, MAX}) {
            refused("copy(" + s + ", ..)", BAD, SHEETS, x -> x.copy(s, 0, 0, 0, 1));
            refused("copy(.., " + s + ", ..)", BAD, SHEETS, x -> x.copy(0, 0, s, 0, 1));
            refused("copy of a missing one to " + s, BAD, SHEETS, x -> x.copy(3, -1, s, 0, -1));
            refused("copy of " + s + " to a missing one", BAD, SHEETS, x -> x.copy(s, -1, 3, 0, -1));
        }
    }

    @Says("BAD: SHEETS; -11; -13: unlike sorts; -12 (n below 0, too).")
    static void promise43_missingComesAheadOfUnlike() {
        refused("copy of a missing one", NOTHING_THERE, SHEETS, x -> x.copy(3, 0, 0, 0, 1));
        refused("copy to a missing one", NOTHING_THERE, SHEETS, x -> x.copy(2, 0, 3, 0, 1));
        refused("copy of a missing one to itself", NOTHING_THERE, SHEETS, x -> x.copy(3, 0, 3, 0, 0));
        refused("copy of none, missing, outside", NOTHING_THERE, SHEETS, x -> x.copy(3, -1, 2, 9, -1));
    }

    @Says("BAD: SHEETS; -11; -13: unlike sorts; -12 (n below 0, too).")
    static void promise43_unlikeComesAheadOfOutside() {
        refused("copy of ints to shorts", UNLIKE, SHEETS, x -> x.copy(0, 0, 2, 0, 1));
        refused("copy of shorts to ints", UNLIKE, SHEETS, x -> x.copy(2, 0, 0, 0, 1));
        refused("copy of none, unlike", UNLIKE, SHEETS, x -> x.copy(2, 0, 0, 0, 0));
        refused("copy of below none, unlike, outside", UNLIKE, SHEETS, x -> x.copy(2, -1, 0, 99, -1));
        refused("copy of bytes to shorts", UNLIKE, Halls.FULL, x -> x.copy(0, 0, 1, 0, 1));
    }

    @Says("-12 (n below 0, too).")
    static void promise43_outside() {
        // of 7 to 5
        int[][] outside = {{-1, 0, 1}, {0, -1, 1}, {0, 0, -1}, {0, 0, 6}, {3, 0, 5}, {0, 1, 5}, {7, 0, 1}, {0, 5, 1},
            {6, 0, 2}, {0, 4, 2}, {MIN, 0, 1}, {0, MIN, 1}, {MAX, 0, 1}, {0, MAX, 1}, {0, 0, MIN}, {0, 0, MAX},
            {1, 1, MAX}, {MAX, MAX, MAX}, {MIN, MIN, MIN}, {MAX, 0, MIN}, {1, 0, MIN}, {-1, -1, -1}};
        for (int[] o : outside) {
            String call = "copy(0, " + o[0] + ", 1, " + o[1] + ", " + o[2] + ")";
            refused(call, OUTSIDE, SHEETS, x -> x.copy(0, o[0], 1, o[1], o[2]));
        }
    }

    @Says({"n numbers of a SHEET, from i on, come to another one's (or its own) place j (as they were): n.", "-12 (n below 0, too)."})
    static void promise43_justInside() {
        int[][] inside = {{0, 0, 5}, {1, 0, 5}, {2, 0, 5}, {6, 4, 1}, {0, 4, 1}, {6, 0, 1}, {3, 1, 4}};
        for (int[] o : inside) {
            is("copy(0, " + o[0] + ", 1, " + o[1] + ", " + o[2] + ")", SHEETS.make().copy(0, o[0], 1, o[1], o[2]), o[2]);
        }
        NumbersCalled x = SHEETS.make();
        is("copy of all to the end", x.copy(0, 2, 1, 0, 5), 5);
        // 20, 1, 20, 30, 2
        is("pulls from 1 on", x.pulls(1, 2, 1, 1), 1);
        latest(x, 1, 20, 30);
    }

    @Says("-12 (n below 0, too).")
    static void promise43_noneAtTheEnds() {
        int[][] inside = {{0, 0}, {7, 0}, {0, 5}, {7, 5}};
        for (int[] o : inside) {
            is("copy(0, " + o[0] + ", 1, " + o[1] + ", 0)", SHEETS.make().copy(0, o[0], 1, o[1], 0), 0);
            changesNothing("copy of none", SHEETS, x -> x.copy(0, o[0], 1, o[1], 0));
        }
        int[][] outside = {{-1, 0}, {8, 0}, {0, -1}, {0, 6}, {MAX, 0}, {0, MIN}};
        for (int[] o : outside) {
            refused("copy(0, " + o[0] + ", 1, " + o[1] + ", 0)", OUTSIDE, SHEETS, x -> x.copy(0, o[0], 1, o[1], 0));
        }
    }

    @Says("-12 (n below 0, too).")
    static void promise43_emptyAndFullRows() {
        NumbersCalled x = new NumbersCalled();
        x.sheet(0, 0, 0);
        x.sheet(1, 0, 40);
        is("none of an empty row to itself", x.copy(0, 0, 0, 0, 0), 0);
        is("none of an empty row to a full one's end", x.copy(0, 0, 1, 40, 0), 0);
        is("one of an empty row", x.copy(0, 0, 1, 0, 1), OUTSIDE);
        is("one to an empty row", x.copy(1, 0, 0, 0, 1), OUTSIDE);
        is("all of a full row to itself", x.copy(1, 0, 1, 0, 40), 40);
        is("41 of a full row", x.copy(1, 0, 1, 0, 41), OUTSIDE);
        is("the last to the first", x.copy(1, 39, 1, 0, 1), 1);
        is("one behind the last", x.copy(1, 40, 1, 0, 1), OUTSIDE);
    }

    @Says("come to another one's (or its own) place j (as they were)")
    static void promise43_ontoItselfAsTheyWere() {
        NumbersCalled x = new NumbersCalled();
        put(x, 0, 1, 1, 11, 12, 13, 14, 15, 16);
        is("one place on", x.copy(0, 0, 0, 1, 6), 6);
        // 1, 1, 11, 12, 13, 14, 15
        is("pulls from 1 on", x.pulls(0, 1, 1, 1), 1);
        latest(x, 1, 11, 12);
        is("one place back", x.copy(0, 1, 0, 0, 6), 6);
        // 1, 11, 12, 13, 14, 15, 15
        is("pulls from 0 on", x.pulls(0, 1, 0, 1), 1);
        latest(x, 1, 11, 12);
        is("two places on", x.copy(0, 0, 0, 2, 5), 5);
        // 1, 11, 1, 11, 12, 13, 14
        is("pulls from 2 on", x.pulls(0, 1, 2, 1), 1);
        latest(x, 1, 11, 12);
    }

    // ---- promise 44

    @Says("BAD: SHEET, sort, n; -11; -13; -12: what stood ahead came.")
    static void promise44_sheets() {
        for (int s : new int[] {-1, 4, MIN, MAX}) {
            refused("pulls(" + s + ", 2, 0, 1)", BAD, SHEETS, x -> x.pulls(s, 2, 0, 1));
        }
        is("pulls(0, 2, 0, 1)", SHEETS.make().pulls(0, 2, 0, 1), 1);
        refused("pulls(3, 2, 0, 1), missing", NOTHING_THERE, SHEETS, x -> x.pulls(3, 2, 0, 1));
    }

    @Says("BAD: SHEET, sort, n; -11; -13; -12: what stood ahead came.")
    static void promise44_sorts() {
        for (int sort : new int[] {-1, 3, MIN, MAX}) {
            refused("pulls(0, " + sort + ", 0, 1)", BAD, SHEETS, x -> x.pulls(0, sort, 0, 1));
            refused("pulls(3, " + sort + ", 0, 1), missing", BAD, SHEETS, x -> x.pulls(3, sort, 0, 1));
        }
        for (int sort = 0; sort < 2; sort++) {
            int other = sort;
            refused("pulls of ints as " + sort, UNLIKE, SHEETS, x -> x.pulls(0, other, 0, 1));
        }
        refused("pulls of shorts as ints", UNLIKE, SHEETS, x -> x.pulls(2, 2, 0, 1));
        is("pulls of shorts", SHEETS.make().pulls(2, 1, 0, 1), 1);
    }

    @Says({"ASKERS by a SHEET of a sort: from a place on, three by three (as of pull()), n of them (0 .. 13): how many came", "BAD: SHEET, sort, n; -11; -13; -12: what stood ahead came."})
    static void promise44_n() {
        for (int n : new int[] {-1, 14, MIN, MAX}) {
            refused("pulls(0, 2, 0, " + n + ")", BAD, SHEETS, x -> x.pulls(0, 2, 0, n));
            refused("pulls(3, 2, 0, " + n + "), missing", BAD, SHEETS, x -> x.pulls(3, 2, 0, n));
            refused("pulls(0, 1, 0, " + n + "), unlike", BAD, SHEETS, x -> x.pulls(0, 1, 0, n));
        }
        is("pulls of none", SHEETS.make().pulls(0, 2, 0, 0), 0);
        changesNothing("pulls of none", SHEETS, x -> x.pulls(0, 2, 0, 0));
        NumbersCalled x = new NumbersCalled();
        x.sheet(0, 0, 39);
        for (int i = 1; i < 39; i += 3) {
            x.cell(0, i, 10);
        }
        is("pulls of thirteen", x.pulls(0, 0, 0, 13), 13);
        is("count(4)", x.count(4), 13);
    }

    @Says("BAD: SHEET, sort, n; -11; -13; -12: what stood ahead came.")
    static void promise44_refusalsInTheirOrder() {
        refused("missing, as anything, outside", NOTHING_THERE, SHEETS, x -> x.pulls(3, 0, -1, 1));
        refused("missing, none of it", NOTHING_THERE, SHEETS, x -> x.pulls(3, 0, 0, 0));
        refused("unlike, outside", UNLIKE, SHEETS, x -> x.pulls(0, 0, -1, 1));
        refused("unlike, none of it", UNLIKE, SHEETS, x -> x.pulls(0, 0, 0, 0));
        refused("sort and n", BAD, SHEETS, x -> x.pulls(3, 3, -1, 14));
    }

    @Says("-12: what stood ahead came.")
    static void promise44_outsideFromTheStart() {
        // of 7 the last three begin at 4
        for (int at : new int[] {-1, 5, 6, 7, 8, MIN, MAX, MAX - 1, MAX - 2, -3}) {
            refused("pulls(0, 2, " + at + ", 1)", OUTSIDE, SHEETS, x -> x.pulls(0, 2, at, 1));
            refused("pulls(0, 2, " + at + ", 13)", OUTSIDE, SHEETS, x -> x.pulls(0, 2, at, 13));
        }
        NumbersCalled x = new NumbersCalled();
        put(x, 0, 2, 0, 10, 20, 1, 5, 2340, 7);
        is("pulls from 4 on", x.pulls(0, 2, 4, 1), 1);
        latest(x, 5, 2340, 7);
    }

    @Says("-12: what stood ahead came.")
    static void promise44_whatStoodAheadCame() {
        NumbersCalled x = SHEETS.make();
        is("pulls of two", x.pulls(0, 2, 0, 2), 2);
        is("pulls of three, the third outside", x.pulls(0, 2, 0, 3), OUTSIDE);
        is("count(4)", x.count(4), 4);
        latest(x, 1, 20, 30);
        is("pulls of thirteen from 1 on", x.pulls(0, 2, 1, 13), OUTSIDE);
        is("count(4): 10, 20, 1 is no one, 20, 30, 2 neither", x.count(4), 4);
    }

    @Says("-12: what stood ahead came.")
    static void promise44_aFullRow() {
        NumbersCalled x = new NumbersCalled();
        x.sheet(0, 1, 40);
        for (int i = 0; i < 40; i++) {
            x.cell(0, i, i % 3 == 2 ? 10 : 0);
        }
        is("thirteen from 1 on", x.pulls(0, 1, 1, 13), 13);
        is("thirteen from 2 on", x.pulls(0, 1, 2, 13), OUTSIDE);
        NumbersCalled y = new NumbersCalled();
        y.sheet(0, 1, 0);
        is("one of an empty row", y.pulls(0, 1, 0, 1), OUTSIDE);
        is("none of an empty row", y.pulls(0, 1, 0, 0), 0);
        y.sheet(0, 1, 2);
        is("one of a row of two", y.pulls(0, 1, 0, 1), OUTSIDE);
        y.sheet(0, 1, 3);
        y.cell(0, 1, 10);
        is("one of a row of three", y.pulls(0, 1, 0, 1), 1);
        is("two of a row of three", y.pulls(0, 1, 0, 2), OUTSIDE);
        is("count(4)", y.count(4), 2);
    }

    @Says("(others are left out)")
    static void promise44_othersAreLeftOut() {
        // the first is none, the second none, the third is one, and so on
        NumbersCalled x = new NumbersCalled();
        put(x, 0, 2, 6, 10, 0, 0, 9, 0, 0, 10, 120, 0, 4010, 0, -1, 10, 0, 0, -10, 0, 0, 10, -1, 5, 3999, 119);
        is("pulls of eight", x.pulls(0, 2, 0, 8), 1);
        is("count(4)", x.count(4), 1);
        latest(x, 5, 3999, 119);
    }

    @Says("(others are left out)")
    static void promise44_noRoomIsLeftOut() {
        NumbersCalled x = Halls.one();
        Halls.pull(x, 14, 0, 10, 0);
        put(x, 0, 2, 1, 20, 30, 2, 30, 40, 3, 40, 50);
        is("pulls of three, room for two", x.pulls(0, 2, 0, 3), 2);
        is("count(4)", x.count(4), 16);
        latest(x, 2, 30, 40);
        is("pulls of three, no room", x.pulls(0, 2, 0, 3), 0);
        is("pulls of four, no room, outside", x.pulls(0, 2, 0, 4), OUTSIDE);
        is("count(4)", x.count(4), 16);
    }

    // ---- promise 45

    @Says("BAD: kind; -12: i; -11: nothing lies there; -13.")
    static void promise45_kinds() {
        range("taken(2, kind)", Halls.FULL, BAD, 0, 6, (x, kind) -> x.taken(2, kind));
        range("taken(4, kind)", Halls.FULL, BAD, 0, 6, (x, kind) -> x.taken(4, kind));
    }

    @Says({"What lies at place i: 0 .. 3 COUNTERS, 4 .. 19 ASKERS", "BAD: kind; -12: i; -11: nothing lies there; -13."})
    static void promise45_places() {
        range("taken(i, 0)", Halls.FULL, OUTSIDE, 0, 19, (x, i) -> x.taken(i, 0));
        range("taken(i, 6), empty", Halls.EMPTY, OUTSIDE, 0, 19, (x, i) -> x.taken(i, 6));
        NumbersCalled x = Halls.FULL.make();
        for (int i = 0; i < 20; i++) {
            is("taken(" + i + ", 0)", x.taken(i, 0), i < 4 ? UNLIKE : i - 4);
            is("taken(" + i + ", 6)", x.taken(i, 6), i < 4 ? 3 + i : UNLIKE);
        }
    }

    @Says("BAD: kind; -12: i; -11: nothing lies there; -13.")
    static void promise45_nothingLiesThere() {
        for (int i = 0; i < 20; i++) {
            int place = i;
            boolean there = i < Halls.SOME_COUNTERS || i >= 4 && i < 4 + Halls.SOME_ASKERS;
            if (!there) {
                for (int kind = 0; kind <= 6; kind++) {
                    is("taken(" + i + ", " + kind + ")", Halls.SOME.make().taken(i, kind), NOTHING_THERE);
                }
                refused("taken(" + i + ", 6)", NOTHING_THERE, Halls.SOME, x -> x.taken(place, 6));
            } else {
                yes("taken(" + i + ", 6)", Halls.SOME.make().taken(i, 6) != NOTHING_THERE);
            }
            is("taken(" + i + ", 0), empty", new NumbersCalled().taken(i, 0), NOTHING_THERE);
        }
    }

    @Says("BAD: kind; -12: i; -11: nothing lies there; -13.")
    static void promise45_refusalsInTheirOrder() {
        refused("taken(-1, 7)", BAD, Halls.SOME, x -> x.taken(-1, 7));
        refused("taken(20, -1)", BAD, Halls.SOME, x -> x.taken(20, -1));
        refused("taken(3, 7): nothing lies there", BAD, Halls.SOME, x -> x.taken(3, 7));
        refused("taken(20, 6)", OUTSIDE, Halls.SOME, x -> x.taken(20, 6));
        refused("taken(-1, 0)", OUTSIDE, Halls.SOME, x -> x.taken(-1, 0));
        refused("taken(3, 0): a counter's place", NOTHING_THERE, Halls.SOME, x -> x.taken(3, 0));
        refused("taken(19, 6): an asker's place", NOTHING_THERE, Halls.SOME, x -> x.taken(19, 6));
        refused("taken(0, 0)", UNLIKE, Halls.SOME, x -> x.taken(0, 0));
        refused("taken(4, 6)", UNLIKE, Halls.SOME, x -> x.taken(4, 6));
    }

    @Says("taken for 0 .. 5 one of that KIND (also of one that is one): the number;")
    static void promise45_eachKindAsEach() {
        // by the terms: OFF, WRONG, OLD are ASKERS, a BACK is a WRONG, a SOLD is an OFF
        String[] is = {"0", "01", "02", "023", "04", "015"};
        for (int kind = 0; kind < 6; kind++) {
            NumbersCalled x = new NumbersCalled();
            x.pull(0, 10, 0);
            x.pull(kind, 10, 0);
            for (int as = 0; as < 6; as++) {
                boolean one = is[kind].indexOf('0' + as) >= 0;
                is("taken(5, " + as + ") of kind " + kind, x.taken(5, as), one ? 1 : UNLIKE);
            }
            is("taken(5, 6) of kind " + kind, x.taken(5, 6), UNLIKE);
        }
    }

    @Says("6 a COUNTER: LETTERS (bits) it DOES.")
    static void promise45_countersTellTheirLetters() {
        for (int letters = 0; letters < 16; letters++) {
            NumbersCalled x = new NumbersCalled();
            x.counter(letters, 9);
            is("taken(0, 6)", x.taken(0, 6), letters);
            is("taken(0, 5)", x.taken(0, 5), UNLIKE);
            x.change(0, 0, 15 - letters);
            is("taken(0, 6), changed", x.taken(0, 6), 15 - letters);
        }
    }

    @Says("What is asked changes nothing, but where it is told.")
    static void promise45_asksOnly() {
        changesNothing("taken(4, 0)", Halls.SOME, x -> x.taken(4, 0));
    }
}
