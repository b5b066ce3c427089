/** Promises 33 to 36: the edges of rolls. */
final class RollBounds extends BoundsOf {
    interface Ask {
        int of(NumbersCalled x, int s);
    }

    private static final Ask[] ASKS = {NumbersCalled::judge, NumbersCalled::laws, NumbersCalled::which};
    private static final String[] NAMES = {"judge", "laws", "which"};
    private static final int JUDGE = 0, LAWS = 1, WHICH = 2;

    /** Three who end at 10, 20, and not at all; sheets 0 .. 2 of sizes 2, 3, 4, 3 is missing. */
    private static final Bounds.Hall THREE = () -> {
        NumbersCalled x = three();
        for (int s = 0; s < 3; s++) {
            x.sheet(s, 2, 2 + s);
        }
        return x;
    };

    private static NumbersCalled three() {
        NumbersCalled x = Halls.one();
        x.pull(0, 100, 0);
        x.pull(0, 100, 0);
        x.pull(0, 1100, 0);
        return x;
    }

    private static void put(NumbersCalled x, int s, int sort, int... numbers) {
        x.sheet(s, sort, numbers.length);
        for (int i = 0; i < numbers.length; i++) {
            x.cell(s, i, numbers[i]);
        }
    }

    private static void refusals(int ask) {
        Ask a = ASKS[ask];
        String name = NAMES[ask];
        for (int s : new int[] {-1, 4, MIN, MAX}) {
            refused(name + "(" + s + ")", BAD, THREE, x -> a.of(x, s));
        }
        refused(name + " of a missing one", NOTHING_THERE, THREE, x -> a.of(x, 3));
        refused(name + " of one too few", BAD, THREE, x -> a.of(x, 0));
        refused(name + " of one too many", BAD, THREE, x -> a.of(x, 2));
        yes(name + " of three is allowed", a.of(THREE.make(), 1) >= 0);
        refused(name + " of a missing one, nobody is there", NOTHING_THERE, Halls.EMPTY, x -> a.of(x, 0));
        yes(name + "(3) of 40 is refused", a.of(Halls.FULL.make(), 3) == BAD);
        changesNothing(name + "(1)", THREE, x -> a.of(x, 1));
    }

    /** An empty row and nobody; a row of sixteen and sixteen. */
    private static void emptyAndFull(int ask, int wantOfNone, int wantOfSixteen) {
        NumbersCalled x = new NumbersCalled();
        for (int sort = 0; sort < 3; sort++) {
            x.sheet(sort, sort, 0);
            is(NAMES[ask] + " of an empty row, nobody", ASKS[ask].of(x, sort), wantOfNone);
        }
        x.sheet(0, 0, 1);
        is(NAMES[ask] + " of a row of one, nobody", ASKS[ask].of(x, 0), BAD);
        NumbersCalled y = sixteen();
        y.film(0);
        is(NAMES[ask] + " of sixteen", ASKS[ask].of(y, 0), wantOfSixteen);
    }

    private static NumbersCalled sixteen() {
        NumbersCalled x = Halls.one();
        Halls.pull(x, 16, 0, 10, 0);
        return x;
    }

    // ---- promise 33

    @Says("BAD: SHEET; -11; BAD: its size isn't how many ASKERS there are.")
    static void promise33_refusals() {
        refusals(JUDGE);
    }

    @Says("the first one whose does otherwise; -1: none.")
    static void promise33_emptyAndFull() {
        emptyAndFull(JUDGE, -1, -1);
    }

    @Says("A SHEET tells when each ASKER's ends (-1: not SERVED): the first one whose does otherwise; -1: none.")
    static void promise33_theFirstAndTheLast() {
        NumbersCalled x = sixteen();
        x.film(0);
        x.cell(0, 15, 15);
        is("judge, the last is otherwise", x.judge(0), 15);
        x.cell(0, 15, 17);
        is("judge, the last is otherwise", x.judge(0), 15);
        x.cell(0, 8, 0);
        is("judge, the ninth too", x.judge(0), 8);
        x.cell(0, 0, 0);
        is("judge, the first too", x.judge(0), 0);
        x.film(0);
        is("judge of the film", x.judge(0), -1);
    }

    @Says("(-1: not SERVED)")
    static void promise33_notServedIsMinusOne() {
        NumbersCalled x = three();
        int[] last = {-1, 0, -2, 20, 255, 65535};
        int[] want = {-1, 2, 2, 2, 2, 2};
        for (int i = 0; i < last.length; i++) {
            put(x, 0, 2, 10, 20, last[i]);
            is("judge of 10, 20, " + last[i], x.judge(0), want[i]);
        }
        put(x, 0, 2, 10, -1, -1);
        is("judge of -1 for one who is served", x.judge(0), 1);
    }

    @Says("SHEETS 0 .. 3 are rows of numbers, or missing (as all are at first): of sort 0 bytes, 1 shorts, 2 ints, 40 at most.")
    static void promise33_bytesAndShorts() {
        NumbersCalled x = three();
        put(x, 0, 0, 256 + 10, 20 - 256, 255);
        is("judge of bytes", x.judge(0), -1);
        put(x, 0, 1, 65536 + 10, 20 - 65536, 65535);
        is("judge of shorts", x.judge(0), -1);
        put(x, 0, 2, 65536 + 10, 20, -1);
        is("judge of ints", x.judge(0), 0);
        // the greatest byte is 127
        NumbersCalled y = Halls.one();
        y.pull(0, 80, 119);
        int[] at127 = {-1, -1, -1};
        int[] at128 = {0, -1, -1};
        for (int sort = 0; sort < 3; sort++) {
            put(y, 0, sort, 127);
            is("judge, an end of 127, sort " + sort, y.judge(0), at127[sort]);
        }
        y.change(0, 1, 1);
        for (int sort = 0; sort < 3; sort++) {
            put(y, 0, sort, 128);
            is("judge, an end of 128, sort " + sort, y.judge(0), at128[sort]);
        }
    }

    @Says("of several the first one told (a -1 that is an answer comes behind the refusal of a number)")
    static void promise33_minusOneComesLast() {
        NumbersCalled x = new NumbersCalled();
        is("judge(4), nobody", x.judge(4), BAD);
        is("judge(0), nobody, missing", x.judge(0), NOTHING_THERE);
        x.sheet(0, 2, 1);
        is("judge(0), nobody, one too many", x.judge(0), BAD);
        x.sheet(0, 2, 0);
        is("judge(0), nobody", x.judge(0), -1);
    }

    @Says("A SHEET tells when each ASKER's ends")
    static void promise33_theLatestEnd() {
        NumbersCalled x = Halls.by("takes 60;waits 999;minds 1;");
        Halls.pull(x, 3, 0, 10, 119);
        put(x, 0, 1, 179, 239, 299);
        is("judge of 179, 239, 299", x.judge(0), -1);
    }

    // ---- promise 34

    @Says("BAD, -11, BAD likewise.")
    static void promise34_refusals() {
        refusals(LAWS);
    }

    @Says("TEXTS (bits), were they THE LAW, by which that is -1.")
    static void promise34_emptyAndFull() {
        emptyAndFull(LAWS, 1, 1);
        NumbersCalled x = Halls.sixTexts(new NumbersCalled());
        x.sheet(0, 2, 0);
        is("laws of nobody, six texts", x.laws(0), 63);
        is("laws of nobody, three texts", somebodyLess().laws(0), 7);
    }

    /** Three texts, nobody, and an empty row. */
    private static NumbersCalled somebodyLess() {
        NumbersCalled x = Halls.SOME.make();
        for (int a = 0; a < Halls.SOME_ASKERS; a++) {
            x.forget();
        }
        x.sheet(0, 0, 0);
        return x;
    }

    @Says("TEXTS (bits), were they THE LAW")
    static void promise34_eachOfSix() {
        NumbersCalled x = Halls.sixTexts(Halls.one());
        x.pull(0, 990, 0);
        for (int t = 1; t < 6; t++) {
            put(x, 0, t % 3, t);
            is("laws of an end at " + t, x.laws(0), 1 << t);
        }
        put(x, 0, 0, 60);
        is("laws of an end at 60: base 99", x.laws(0), 1);
        put(x, 0, 0, 0);
        is("laws of an end at 0", x.laws(0), 0);
        put(x, 0, 0, -1);
        is("laws of no end", x.laws(0), 0);
        x.set(2, 0);
        is("laws of no end, turned away", x.laws(0), 63);
        is("count(6)", x.count(6), 0);
    }

    // ---- promise 35

    @Says("Likewise WHO (bits 0 .. 3).")
    static void promise35_refusals() {
        refusals(WHICH);
    }

    @Says("Likewise WHO (bits 0 .. 3).")
    static void promise35_emptyAndFull() {
        emptyAndFull(WHICH, 15, 15);
    }

    @Says("Likewise WHO (bits 0 .. 3).")
    static void promise35_eachOfFour() {
        NumbersCalled x = Halls.one();
        x.pull(0, 309, 0);
        x.pull(4, 209, 0);
        x.pull(3, 109, 0);
        x.pull(0, 59, 0);
        for (int who = 0; who < 4; who++) {
            x.set(0, who);
            x.film(0);
            x.set(0, 3 - who);
            is("which of a film by " + who, x.which(0), 1 << who);
        }
        put(x, 0, 2, 0, 0, 0, 0);
        is("which of another roll", x.which(0), 0);
    }

    // ---- promise 36

    @Says("BAD.")
    static void promise36_sheets() {
        range("film(s)", THREE, BAD, 0, 3, (x, s) -> x.film(s));
    }

    @Says("A SHEET truly becomes when each ASKER's ends (ints; -1): how many.")
    static void promise36_nobodyAndSixteen() {
        NumbersCalled x = new NumbersCalled();
        for (int s = 0; s < 4; s++) {
            is("film(" + s + "), nobody", x.film(s), 0);
            is("cell of it", x.cell(s, 0, 0), OUTSIDE);
            is("judge of it", x.judge(s), -1);
        }
        NumbersCalled y = sixteen();
        is("film(3), sixteen", y.film(3), 16);
        is("cell 15 of it", y.cell(3, 15, 16), 1);
        is("cell 16 of it", y.cell(3, 16, 0), OUTSIDE);
        is("judge of it", y.judge(3), -1);
    }

    @Says("A SHEET truly becomes when each ASKER's ends (ints; -1): how many.")
    static void promise36_whateverTheSheetWas() {
        for (int s = 0; s < 4; s++) {
            NumbersCalled x = THREE.make();
            x.sheet(1, 0, 40);
            x.cell(1, 0, 5);
            is("film(" + s + ")", x.film(s), 3);
            is("it has three places", x.cell(s, 3, 0), OUTSIDE);
            is("judge of it", x.judge(s), -1);
            // an int keeps more than 16 bits
            x.cell(s, 0, 65536 + 10);
            is("judge of 65546", x.judge(s), 0);
        }
    }

    @Says("(ints; -1)")
    static void promise36_notServedIsMinusOne() {
        NumbersCalled x = three();
        x.set(2, 0);
        is("film(0)", x.film(0), 3);
        put(x, 1, 2, -1, -1, -1);
        is("judge of -1, -1, -1", x.judge(1), -1);
        is("judge of the film", x.judge(0), -1);
        x.set(2, 120);
        is("judge of the film, another day", x.judge(0), 0);
    }
}
