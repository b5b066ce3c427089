/** Promises 41 to 45: the host. */
public final class HostTest {
    private static final Due due = new Due("HostTest");

    public static void main(String[] args) {
        sheet();
        cell();
        copy();
        copyRefusals();
        pulls();
        pullsRefusals();
        taken();
        due.end();
    }

    /** What stands at three places, by what a pull of it tells: kind, letter, base, more, minute. */
    private static void pulled(String call, NumbersCalled x, int a, int kind, int what, int minute) {
        due.is(call + ": kind", x.told(a, 0), kind);
        due.is(call + ": what", 1000 * x.told(a, 1) + 10 * x.told(a, 2) + x.told(a, 3), what);
        due.is(call + ": minute", x.told(a, 4), minute);
    }

    private static void sheet() {
        NumbersCalled x = new NumbersCalled();
        due.is("sheet(-1, 0, 1)", x.sheet(-1, 0, 1), -2);
        due.is("sheet(4, 0, 1)", x.sheet(4, 0, 1), -2);
        due.is("sheet(0, -2, 1)", x.sheet(0, -2, 1), -2);
        due.is("sheet(0, 3, 1)", x.sheet(0, 3, 1), -2);
        due.is("sheet(0, 0, 41)", x.sheet(0, 0, 41), -2);
        due.is("sheet(0, 0, -1)", x.sheet(0, 0, -1), -14);
        due.is("sheet(4, 0, -1): BAD first", x.sheet(4, 0, -1), -2);
        due.is("sheet(0, 3, -1): BAD first", x.sheet(0, 3, -1), -2);
        due.is("still missing", x.cell(0, 0, 0), -11);
        due.is("sheet(0, -1, 41): n does not matter", x.sheet(0, -1, 41), 1);
        due.is("sheet(0, -1, -1): n does not matter", x.sheet(0, -1, -1), 1);
        due.is("sheet(4, -1, 0)", x.sheet(4, -1, 0), -2);
        for (int s = 0; s < 4; s++) {
            due.is("sheet(" + s + ", 2, 40)", x.sheet(s, 2, 40), 1);
            due.is("cell(" + s + ", 39, 1)", x.cell(s, 39, 1), 1);
            due.is("cell(" + s + ", 40, 1)", x.cell(s, 40, 1), -12);
        }
        due.is("sheet(0, 1, 0)", x.sheet(0, 1, 0), 1);
        due.is("none has a place", x.cell(0, 0, 0), -12);
        due.is("a refusal leaves it", x.sheet(1, 0, 41), -2);
        due.is("a refusal leaves it", x.sheet(1, 0, -1), -14);
        due.is("it is as it was", x.cell(1, 39, 1), 1);
        due.is("missing again", x.sheet(1, -1, 0), 1);
        due.is("cell of it", x.cell(1, 0, 0), -11);
        // all 0 each time anew: a row of zeros is no pull
        x.sheet(2, 2, 3);
        x.cell(2, 1, 10);
        due.is("pulls of 0, 10, 0", x.pulls(2, 2, 0, 1), 1);
        x.sheet(2, 2, 3);
        due.is("pulls of zeros", x.pulls(2, 2, 0, 1), 0);
        for (int i = 0; i < 3; i++) {
            x.cell(2, i, 9);
        }
        x.sheet(2, 0, 3);
        x.cell(2, 1, 10);
        due.is("pulls of 0, 10, 0", x.pulls(2, 0, 0, 1), 1);
        pulled("pulls of 0, 10, 0", x, 1, 0, 10, 0);
    }

    private static void cell() {
        NumbersCalled x = new NumbersCalled();
        due.is("cell(-1, ..)", x.cell(-1, 0, 0), -2);
        due.is("cell(4, ..)", x.cell(4, 0, 0), -2);
        due.is("cell, missing, outside: -11 first", x.cell(0, -1, 0), -11);
        x.sheet(0, 0, 3);
        due.is("cell(0, -1, 0)", x.cell(0, -1, 0), -12);
        due.is("cell(0, 3, 0)", x.cell(0, 3, 0), -12);
        due.is("cell(0, MAX, 0)", x.cell(0, 2147483647, 0), -12);
        // of bytes the lowest 8 bits: kind 256 + 5, what 10 - 512, minute 119 + 256
        due.is("cell of bytes", x.cell(0, 0, 261), 1);
        due.is("cell of bytes", x.cell(0, 1, -502), 1);
        due.is("cell of bytes", x.cell(0, 2, 375), 1);
        due.is("pulls of bytes", x.pulls(0, 0, 0, 1), 1);
        pulled("pulls of bytes", x, 0, 5, 10, 119);
        x.cell(0, 1, 130);
        due.is("130 is below 0 as a byte", x.pulls(0, 0, 0, 1), 0);
        x.sheet(1, 1, 3);
        x.cell(1, 0, 65536 * 3 + 1);
        x.cell(1, 1, 3999 - 65536);
        x.cell(1, 2, 65536);
        due.is("pulls of shorts", x.pulls(1, 1, 0, 1), 1);
        pulled("pulls of shorts", x, 1, 1, 3999, 0);
        x.cell(1, 2, 65535);
        due.is("65535 is below 0 as a short", x.pulls(1, 1, 0, 1), 0);
        x.sheet(2, 2, 3);
        x.cell(2, 1, 65536 + 10);
        due.is("65546 stays as an int", x.pulls(2, 2, 0, 1), 0);
        x.cell(2, 1, 10);
        x.cell(2, 2, 118);
        due.is("pulls of ints", x.pulls(2, 2, 0, 1), 1);
        pulled("pulls of ints", x, 2, 0, 10, 118);
    }

    private static void copy() {
        NumbersCalled x = new NumbersCalled();
        x.sheet(0, 2, 7);
        x.sheet(1, 2, 5);
        for (int i = 0; i < 7; i++) {
            x.cell(0, i, 10 + i);
        }
        due.is("copy(0, 2, 1, 1, 3)", x.copy(0, 2, 1, 1, 3), 3);
        x.cell(1, 0, 0);
        x.cell(1, 4, 0);
        // 0, 12, 13, 14, 0
        due.is("pulls of it", x.pulls(1, 2, 0, 1), 1);
        pulled("pulls of it", x, 0, 0, 12, 13);
        due.is("copy(0, 4, 1, 2, 3): to the end", x.copy(0, 4, 1, 2, 3), 3);
        // 0, 12, 14, 15, 16
        due.is("pulls of it", x.pulls(1, 2, 0, 1), 1);
        pulled("pulls of it", x, 1, 0, 12, 14);
        due.is("copy(0, 7, 1, 5, 0): none, at the ends", x.copy(0, 7, 1, 5, 0), 0);
        due.is("copy(0, 0, 0, 0, 7): to itself", x.copy(0, 0, 0, 0, 7), 7);
        // as they were: 1, 20, 30, 40 .. one place on
        NumbersCalled y = new NumbersCalled();
        y.sheet(0, 1, 7);
        for (int i = 0; i < 6; i++) {
            y.cell(0, i, i == 0 ? 1 : 10 + i);
        }
        due.is("copy one place on", y.copy(0, 0, 0, 1, 6), 6);
        // 1, 1, 11, 12, 13, 14, 15
        due.is("pulls from 1", y.pulls(0, 1, 1, 1), 1);
        pulled("pulls from 1", y, 0, 1, 11, 12);
        due.is("copy one place back", y.copy(0, 1, 0, 0, 6), 6);
        // 1, 11, 12, 13, 14, 15, 15
        due.is("pulls from 0", y.pulls(0, 1, 0, 1), 1);
        pulled("pulls from 0", y, 1, 1, 11, 12);
        y.cell(0, 3, 2);
        due.is("pulls from 3", y.pulls(0, 1, 3, 1), 1);
        pulled("pulls from 3", y, 2, 2, 14, 15);
    }

    private static void copyRefusals() {
        NumbersCalled x = new NumbersCalled();
        x.sheet(0, 2, 7);
        x.sheet(1, 2, 5);
        x.sheet(2, 1, 5);
        due.is("copy of -1", x.copy(-1, 0, 0, 0, 1), -2);
        due.is("copy of 4", x.copy(4, 0, 0, 0, 1), -2);
        due.is("copy to -1", x.copy(0, 0, -1, 0, 1), -2);
        due.is("copy to 4", x.copy(0, 0, 4, 0, 1), -2);
        due.is("copy to 4 of a missing one: BAD first", x.copy(3, 0, 4, 0, 1), -2);
        due.is("copy of a missing one", x.copy(3, 0, 0, 0, 1), -11);
        due.is("copy to a missing one", x.copy(0, 0, 3, 0, 1), -11);
        due.is("copy of none to a missing one, outside: -11 first", x.copy(0, -1, 3, 0, -1), -11);
        due.is("copy, unlike", x.copy(0, 0, 2, 0, 1), -13);
        due.is("copy, unlike, outside: -13 first", x.copy(2, -1, 0, 9, -1), -13);
        int[][] outside = {{-1, 0, 1}, {0, -1, 1}, {0, 0, -1}, {0, 0, 6}, {3, 0, 5}, {0, 1, 5}, {8, 0, 0}, {0, 6, 0},
            {7, 0, 1}, {0, 5, 1}, {2147483647, 0, 1}, {0, 2147483647, 1}, {1, 1, 2147483647}, {0, 0, -2147483648},
            {-1, 0, 0}, {0, -1, 0}};
        for (int[] o : outside) {
            due.is("copy(0, " + o[0] + ", 1, " + o[1] + ", " + o[2] + ")", x.copy(0, o[0], 1, o[1], o[2]), -12);
        }
        due.is("copy(0, 2, 1, 0, 5)", x.copy(0, 2, 1, 0, 5), 5);
    }

    private static void put(NumbersCalled x, int s, int... numbers) {
        for (int i = 0; i < numbers.length; i++) {
            x.cell(s, i, numbers[i]);
        }
    }

    private static void pulls() {
        NumbersCalled x = new NumbersCalled();
        x.sheet(0, 2, 12);
        put(x, 0, 1, 2340, 56, 6, 10, 0, 2, 1050, 119, 3, 3999, 7);
        due.is("pulls of 4: one is left out", x.pulls(0, 2, 0, 4), 3);
        pulled("the first", x, 0, 1, 2340, 56);
        pulled("the third", x, 1, 2, 1050, 119);
        pulled("the fourth", x, 2, 3, 3999, 7);
        due.is("count(4)", x.count(4), 3);
        due.is("pulls of none", x.pulls(0, 2, 0, 0), 0);
        due.is("pulls of the last", x.pulls(0, 2, 9, 1), 1);
        due.is("pulls of 13, where 12 places are: the fifth is outside", x.pulls(0, 2, 0, 13), -12);
        due.is("count(4): three more came", x.count(4), 7);
        due.is("pulls of two, the last one outside by one", x.pulls(0, 2, 7, 2), -12);
        due.is("count(4): 1050, 119, 3 is no one", x.count(4), 7);
        x.sheet(1, 0, 39);
        for (int i = 0; i < 13; i++) {
            x.cell(1, 3 * i + 1, 10 + i);
        }
        due.is("pulls of 13, with room for 9", x.pulls(1, 0, 0, 13), 9);
        due.is("count(4)", x.count(4), 16);
        pulled("the last", x, 15, 0, 18, 0);
        due.is("pulls of 13, with no room", x.pulls(1, 0, 0, 13), 0);
        due.is("pulls with no room, outside", x.pulls(1, 0, 3, 13), -12);
    }

    private static void pullsRefusals() {
        NumbersCalled x = new NumbersCalled();
        x.sheet(0, 2, 7);
        put(x, 0, 0, 50, 0, 0, 60, 0, 0);
        due.is("pulls(-1, ..)", x.pulls(-1, 2, 0, 1), -2);
        due.is("pulls(4, ..)", x.pulls(4, 2, 0, 1), -2);
        due.is("pulls(0, 3, ..)", x.pulls(0, 3, 0, 1), -2);
        due.is("pulls(0, -2, ..)", x.pulls(0, -2, 0, 1), -2);
        due.is("pulls(.., 14)", x.pulls(0, 2, 0, 14), -2);
        due.is("pulls(.., -1)", x.pulls(0, 2, 0, -1), -2);
        due.is("pulls of a missing one, n 14: BAD first", x.pulls(1, 2, 0, 14), -2);
        due.is("pulls of a missing one, sort 3: BAD first", x.pulls(1, 3, 0, 1), -2);
        due.is("pulls of a missing one", x.pulls(1, 2, 0, 1), -11);
        due.is("pulls of a missing one, outside: -11 first", x.pulls(1, 0, -1, 1), -11);
        due.is("pulls of shorts", x.pulls(0, 1, 0, 1), -13);
        due.is("pulls of bytes, outside: -13 first", x.pulls(0, 0, -1, 1), -13);
        due.is("pulls from -1", x.pulls(0, 2, -1, 1), -12);
        due.is("pulls from 5", x.pulls(0, 2, 5, 1), -12);
        due.is("pulls from 7", x.pulls(0, 2, 7, 1), -12);
        due.is("pulls from MAX", x.pulls(0, 2, 2147483647, 13), -12);
        due.is("pulls from MIN", x.pulls(0, 2, -2147483648, 13), -12);
        due.is("count(4) behind refusals", x.count(4), 0);
        due.is("pulls of 3: what stood ahead came", x.pulls(0, 2, 0, 3), -12);
        due.is("count(4)", x.count(4), 2);
    }

    private static void taken() {
        NumbersCalled x = new NumbersCalled();
        due.is("taken(0, 7)", x.taken(0, 7), -2);
        due.is("taken(0, -1)", x.taken(0, -1), -2);
        due.is("taken(-1, 7): BAD first", x.taken(-1, 7), -2);
        due.is("taken(-1, 0)", x.taken(-1, 0), -12);
        due.is("taken(20, 0)", x.taken(20, 0), -12);
        due.is("taken(0, 6), nothing", x.taken(0, 6), -11);
        due.is("taken(0, 0), nothing: -11 first", x.taken(0, 0), -11);
        due.is("taken(4, 6), nothing: -11 first", x.taken(4, 6), -11);
        due.is("taken(19, 0), nothing", x.taken(19, 0), -11);
        for (int c = 0; c < 4; c++) {
            x.counter(c * 5, 0);
        }
        for (int kind = 0; kind < 6; kind++) {
            x.pull(kind, 10, 0);
        }
        // what is what, by the rows' kinds
        boolean[][] is = {
            {true, false, false, false, false, false},
            {true, true, false, false, false, false},
            {true, false, true, false, false, false},
            {true, false, true, true, false, false},
            {true, false, false, false, true, false},
            {true, true, false, false, false, true}};
        for (int a = 0; a < 6; a++) {
            for (int kind = 0; kind < 6; kind++) {
                due.is("taken(" + (4 + a) + ", " + kind + ")", x.taken(4 + a, kind), is[a][kind] ? a : -13);
            }
            due.is("taken(" + (4 + a) + ", 6)", x.taken(4 + a, 6), -13);
        }
        for (int c = 0; c < 4; c++) {
            due.is("taken(" + c + ", 6)", x.taken(c, 6), c * 5);
            for (int kind = 0; kind < 6; kind++) {
                due.is("taken(" + c + ", " + kind + ")", x.taken(c, kind), -13);
            }
        }
        while (x.count(4) < 16) {
            x.pull(5, 10, 0);
        }
        due.is("taken(19, 1)", x.taken(19, 1), 15);
    }
}
