/** Promises 31 and 32: the edges of numbers given over. */
final class PartsBounds extends BoundsOf {
    private static final long NO = Bounds.NO;
    private static final long WHOLE = 1000000000L;

    /** The rule of the document, line by line. */
    private static long[] row(int n, int h) {
        long[] was = new long[n + 1];
        was[0] = WHOLE;
        for (int there = 1; there <= n; there++) {
            for (int j = there; j >= 1; j--) {
                was[j] = was[j] * (100 - h) / 100 + was[j - 1] * h / 100;
            }
            was[0] = was[0] * (100 - h) / 100;
        }
        return was;
    }

    private static long more(int n, int h, int seats) {
        long all = 0;
        long[] row = row(n, h);
        for (int j = seats + 1; j <= n; j++) {
            all += row[j];
        }
        return all;
    }

    // ---- promise 31

    @Says({"OF n (0 .. 40), each coming by hundredth (0 .. 100)", "NO: none such."})
    static void promise31_n() {
        range("over(n, 50, 1)", Halls.SOME, NO, 0, 40, (x, n) -> x.over(n, 50, 1));
    }

    @Says({"each coming by hundredth (0 .. 100)", "NO: none such."})
    static void promise31_hundredth() {
        range("over(5, hundredth, 1)", Halls.SOME, NO, 0, 100, (x, h) -> x.over(5, h, 1));
    }

    @Says({"PARTS of all more than seats (0 .. 40), together.", "NO: none such."})
    static void promise31_seats() {
        range("over(5, 50, seats)", Halls.SOME, NO, 0, 40, (x, seats) -> x.over(5, 50, seats));
    }

    @Says("PARTS of all more than seats (0 .. 40), together.")
    static void promise31_moreThanSeats() {
        NumbersCalled x = new NumbersCalled();
        for (int n : new int[] {0, 1, 2, 20, 39, 40}) {
            for (int seats = 0; seats <= 40; seats++) {
                is("over(" + n + ", 100, " + seats + ")", x.over(n, 100, seats), n > seats ? WHOLE : 0);
            }
        }
    }

    @Says("each coming by hundredth (0 .. 100)")
    static void promise31_noneComesOrAllCome() {
        NumbersCalled x = new NumbersCalled();
        for (int n = 0; n <= 40; n++) {
            is("over(" + n + ", 0, 0)", x.over(n, 0, 0), 0);
            is("over(" + n + ", 100, 0)", x.over(n, 100, 0), n > 0 ? WHOLE : 0);
            is("over(" + n + ", 100, n - 1)", n == 0 ? 0 : x.over(n, 100, n - 1), n > 0 ? WHOLE : 0);
            is("over(" + n + ", 100, n)", x.over(n, 100, n), 0);
        }
    }

    @Says({"PARTS are of one whole, 1000000000.", "(all quotients cut, one by one)"})
    static void promise31_quotientsAreCutOneByOne() {
        NumbersCalled x = new NumbersCalled();
        is("over(4, 1, 3): 10 of the whole", x.over(4, 1, 3), 10);
        is("over(5, 1, 4): cut to none", x.over(5, 1, 4), 0);
        is("over(6, 7, 0): less than if both were cut together", x.over(6, 7, 0), 353009806);
        is("over(40, 99, 39)", x.over(40, 99, 39), 668971743);
    }

    @Says({"OF n, each coming by h of a hundred: a row, at first 1000000000 for none;",
        "for each of n in turn: for j from there down to 1: what was for j times (100 less h) by 100, and what was for j less 1 times h by 100;",
        "then for 0 what was times (100 less h) by 100 (all quotients cut, one by one)."})
    static void promise31_allNAndHundredths() {
        for (int h = 0; h <= 100; h++) {
            NumbersCalled x = new NumbersCalled();
            for (int n : new int[] {0, 1, 2, 7, 39, 40}) {
                for (int seats : new int[] {0, 1, 5, 20, 38, 39, 40}) {
                    is("over(" + n + ", " + h + ", " + seats + ")", x.over(n, h, seats), more(n, h, seats));
                }
            }
        }
    }

    @Says("What is asked changes nothing, but where it is told.")
    static void promise31_asksOnly() {
        changesNothing("over(40, 50, 5)", Halls.SOME, x -> x.over(40, 50, 5));
    }

    // ---- promise 32

    @Says("BAD.")
    static void promise32_hundredth() {
        range("give(hundredth, 1, 5)", Halls.SOME, BAD, 0, 100, (x, h) -> x.give(h, 1, 5));
    }

    @Says("BAD.")
    static void promise32_seats() {
        range("give(50, seats, 5)", Halls.SOME, BAD, 0, 40, (x, seats) -> x.give(50, seats, 5));
    }

    @Says({"The greatest n (0 .. 40) by which that is no more than risk (0 .. 1000) times 1000000", "BAD."})
    static void promise32_risk() {
        range("give(50, 1, risk)", Halls.SOME, BAD, 0, 1000, (x, risk) -> x.give(50, 1, risk));
    }

    @Says("no more than risk (0 .. 1000) times 1000000")
    static void promise32_justNoMoreThanRisk() {
        NumbersCalled x = new NumbersCalled();
        is("over(2, 50, 1)", x.over(2, 50, 1), 250000000);
        is("give(50, 1, 250)", x.give(50, 1, 250), 2);
        is("give(50, 1, 249)", x.give(50, 1, 249), 1);
        is("over(1, 1, 0)", x.over(1, 1, 0), 10000000);
        is("give(1, 0, 10)", x.give(1, 0, 10), 1);
        is("give(1, 0, 9)", x.give(1, 0, 9), 0);
    }

    @Says("no more than risk (0 .. 1000) times 1000000")
    static void promise32_moreThanRiskBySome() {
        NumbersCalled x = new NumbersCalled();
        is("over(38, 67, 21)", x.over(38, 67, 21), 912000089);
        is("give(67, 21, 912)", x.give(67, 21, 912), 37);
        is("over(17, 40, 4)", x.over(17, 40, 4), 874000808);
        is("give(40, 4, 874)", x.give(40, 4, 874), 16);
        is("over(34, 24, 2)", x.over(34, 24, 2), 993999813);
        is("give(24, 2, 994)", x.give(24, 2, 994), 34);
    }

    @Says("The greatest n (0 .. 40) by which that is no more than risk (0 .. 1000) times 1000000; 0: none is.")
    static void promise32_noneAndForty() {
        NumbersCalled x = new NumbersCalled();
        is("give(100, 0, 0)", x.give(100, 0, 0), 0);
        is("give(100, 0, 999)", x.give(100, 0, 999), 0);
        is("give(100, 0, 1000): products pass an int", x.give(100, 0, 1000), 40);
        is("give(0, 0, 0)", x.give(0, 0, 0), 40);
        is("give(100, 39, 999)", x.give(100, 39, 999), 39);
        is("give(100, 40, 0)", x.give(100, 40, 0), 40);
    }

    @Says("The greatest n (0 .. 40)")
    static void promise32_allHundredths() {
        for (int h = 0; h <= 100; h++) {
            NumbersCalled x = new NumbersCalled();
            for (int seats : new int[] {0, 1, 17, 39, 40}) {
                for (int risk : new int[] {0, 1, 500, 999, 1000}) {
                    int greatest = 0;
                    for (int n = 0; n <= 40; n++) {
                        if (more(n, h, seats) <= risk * 1000000L) {
                            greatest = n;
                        }
                    }
                    is("give(" + h + ", " + seats + ", " + risk + ")", x.give(h, seats, risk), greatest);
                }
            }
        }
    }

    @Says("What is asked changes nothing, but where it is told.")
    static void promise32_asksOnly() {
        changesNothing("give(50, 5, 5)", Halls.SOME, x -> x.give(50, 5, 5));
    }
}
