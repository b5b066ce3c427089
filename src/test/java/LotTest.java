/** Promises 37 to 40: days by lot, images. */
public final class LotTest {
    private static final Due due = new Due("LotTest");
    private static final long NO = -4611686018427387904L;

    public static void main(String[] args) {
        drawn();
        drawnSums();
        odds();
        image();
        imageOfAll();
        due.end();
    }

    /** When the first two come later: by seed 0 3, -10; 1 -5, -10; 7 10, -10; 99999 4, -8. */
    private static void drawn() {
        NumbersCalled x = new NumbersCalled();
        x.counter(1, 0);
        x.pull(0, 100, 50);
        int[] seeds = {0, 1, 7, 99998, 99999};
        int[] later = {3, -5, 10, -9, 4};
        for (int i = 0; i < seeds.length; i++) {
            due.is("drawn(" + seeds[i] + ", 3)", x.drawn(seeds[i], 3), 50 + later[i] + 10);
        }
        due.is("told(0, 4), unchanged", x.told(0, 4), 50);
        // 0 .. 119, else the bound
        x.move(0, 4);
        due.is("drawn(1, 3) at 4", x.drawn(1, 3), 10);
        x.move(0, 118);
        due.is("drawn(7, 3) at 118", x.drawn(7, 3), 129);
        due.is("drawn(0, 3) at 118", x.drawn(0, 3), 129);
        // the second one's lot: both are at 40 by seed 0 if they come at 37 and 50
        x.move(0, 37);
        x.pull(0, 100, 50);
        due.is("drawn(0, 3), two", x.drawn(0, 3), 60);
        due.is("drawn(0, 1), two", x.drawn(0, 1), 10);
        // by seed 1 at 32 and 40: the second waits 2
        due.is("drawn(1, 1), two", x.drawn(1, 1), 2);
        // STOP is against when they are drawn to come
        x.set(2, 40);
        due.is("drawn(0, 5), stop 40", x.drawn(0, 5), 2);
        due.is("drawn(1, 5), stop 40", x.drawn(1, 5), 1);
        due.is("sum(5), stop 40", x.sum(5), 1);
        due.is("drawn(-1, 0)", x.drawn(-1, 0), -2);
        due.is("drawn(100000, 0)", x.drawn(100000, 0), -2);
        due.is("drawn(0, 8)", x.drawn(0, 8), -2);
        due.is("drawn(0, -1)", x.drawn(0, -1), -2);
    }

    /** By seed 0: 3, -10, 2, -6, -9, 4 minutes later. */
    private static void drawnSums() {
        NumbersCalled x = new NumbersCalled();
        x.counter(1, 0);
        int[] comes = {10, 30, 48, 66, 79, 86};
        for (int minute : comes) {
            x.pull(0, 50, minute);
        }
        // they come at 13, 20, 50, 60, 70, 90: nobody waits
        int[] want = {6, 0, 0, 95, 0, 0, 0, 210};
        for (int what = 0; what < 8; what++) {
            due.is("drawn(0, " + what + ")", x.drawn(0, what), want[what]);
        }
        x.pull(0, 1010, 0);
        due.is("drawn(0, 6), one more", x.drawn(0, 6), 1);
        due.is("drawn(0, 0), one more", x.drawn(0, 0), 6);
    }

    /** One at 50: ends by seed 0 .. 19 as its lot is. */
    private static void odds() {
        NumbersCalled x = new NumbersCalled();
        due.is("odds, nobody, above", x.odds(0, 20, 0, 0), 1);
        due.is("odds, nobody, below", x.odds(0, 20, 0, 1), 1);
        x.counter(1, 0);
        x.pull(0, 100, 50);
        int good = 0;
        for (int seeds = 1; seeds <= 20; seeds++) {
            long lot = (99990L + seeds) * 48271 % 2147483647;
            if (50 + lot % 21 - 10 + 10 <= 60) {
                good++;
            }
            int d = 20;
            while (good % d != 0 || seeds % d != 0) {
                d--;
            }
            due.is("odds(99990, " + seeds + ", 60, 0)", x.odds(99990, seeds, 60, 0), good / d);
            due.is("odds(99990, " + seeds + ", 60, 1)", x.odds(99990, seeds, 60, 1), seeds / d);
        }
        due.is("odds, none, above", x.odds(0, 20, 49, 0), 0);
        due.is("odds, none, below", x.odds(0, 20, 49, 1), 1);
        due.is("odds, all, above", x.odds(0, 20, 70, 0), 1);
        due.is("odds, all, below", x.odds(0, 20, 70, 1), 1);
        x.pull(0, 1100, 0);
        due.is("odds, one waits yet, above", x.odds(0, 20, 999, 0), 0);
        due.is("odds(-1, ..)", x.odds(-1, 1, 0, 0), NO);
        due.is("odds(100000, ..)", x.odds(100000, 1, 0, 0), NO);
        due.is("odds(.., 0, ..)", x.odds(0, 0, 0, 0), NO);
        due.is("odds(.., 21, ..)", x.odds(0, 21, 0, 0), NO);
        due.is("odds(.., -1, ..)", x.odds(0, 1, -1, 0), NO);
        due.is("odds(.., 1000, ..)", x.odds(0, 1, 1000, 0), NO);
        due.is("odds(.., 2)", x.odds(0, 1, 0, 2), NO);
        due.is("odds(.., -1)", x.odds(0, 1, 0, -1), NO);
    }

    private static void image() {
        NumbersCalled x = new NumbersCalled();
        due.is("back(), no image", x.back(), -3);
        due.is("image() of nothing", x.image(), 0);
        x.counter(1, 1);
        x.pull(0, 10, 0);
        due.is("back() to nothing", x.back(), 0);
        due.is("count(3)", x.count(3), 0);
        due.is("count(4)", x.count(4), 0);
        due.is("back() again", x.back(), 0);
        x.pull(0, 10, 5);
        due.is("image(), a later one", x.image(), 1);
        x.move(0, 6);
        due.is("image(), the latest", x.image(), 1);
        x.move(0, 7);
        due.is("back()", x.back(), 1);
        due.is("told(0, 4)", x.told(0, 4), 6);
    }

    private static void imageOfAll() {
        NumbersCalled x = new NumbersCalled();
        x.counter(3, 4);
        x.change(0, 2, 30);
        x.set(0, 1);
        x.set(1, 5);
        x.set(2, 70);
        x.pull(1, 1234, 56);
        Due.law(x, "takes 9;waits 99;minds 1;");
        x.sheet(0, 2, 1);
        Due.feed(x, "ab");
        due.is("image()", x.image(), 1);
        x.change(0, 0, 8);
        x.change(0, 1, 9);
        x.change(0, 2, 99);
        x.counter(1, 1);
        x.set(0, 2);
        x.set(1, 6);
        x.set(2, 71);
        x.move(0, 57);
        x.pull(2, 10, 0);
        x.pull(2, 10, 0);
        x.sheet(0, 2, 2);
        x.text();
        Due.law(x, "takes 8;waits 99;minds 1;");
        Due.law(x, "takes 7;waits 99;minds 1;");
        Due.feed(x, "abc");
        due.is("back()", x.back(), 1);
        int[] want = {1, 5, 70, 1, 1, 4, 1, 3};
        for (int what = 0; what < want.length; what++) {
            due.is("count(" + what + ") behind back()", x.count(what), want[what]);
        }
        int[] counter = {3, 4, 30};
        for (int what = 0; what < 3; what++) {
            due.is("counterTold(0, " + what + ") behind back()", x.counterTold(0, what), counter[what]);
        }
        due.is("counterTold(1, 0) behind back()", x.counterTold(1, 0), -5);
        due.is("told(0, 4) behind back()", x.told(0, 4), 56);
        due.is("told(1, 4) behind back()", x.told(1, 4), -5);
        due.is("the sheet is as it was before", x.cell(0, 1, 0), 1);
        due.is("asks by the law", x.asks(0, 0, 0, 0, 0), 9);
        // a counter that comes then has no break
        due.is("counter", x.counter(1, 1), 1);
        due.is("counterTold(1, 2)", x.counterTold(1, 2), -1);
    }
}
