/** Promises 1 to 9: the hall, the law. */
public final class HallTest {
    private static final Due due = new Due("HallTest");

    public static void main(String[] args) {
        aNewObject();
        counter();
        changeAndTold();
        set();
        count();
        feed();
        text();
        force();
        due.end();
    }

    private static void aNewObject() {
        NumbersCalled x = new NumbersCalled();
        int[] want = {0, 3, 120, 0, 0, 1, 0, 0};
        for (int what = 0; what < want.length; what++) {
            due.is("new: count(" + what + ")", x.count(what), want[what]);
        }
        due.is("new: counterTold(0, 0)", x.counterTold(0, 0), -5);
        due.is("new: told(0, 0)", x.told(0, 0), -5);
        due.is("new: back()", x.back(), -3);
        for (int s = 0; s < 4; s++) {
            due.is("new: cell(" + s + ", 0, 0)", x.cell(s, 0, 0), -11);
        }
    }

    private static void counter() {
        NumbersCalled x = new NumbersCalled();
        due.is("counter(16, 0)", x.counter(16, 0), -2);
        due.is("counter(-1, 0)", x.counter(-1, 0), -2);
        due.is("counter(0, 10)", x.counter(0, 10), -2);
        due.is("counter(0, -1)", x.counter(0, -1), -2);
        due.is("count(3) behind refusals", x.count(3), 0);
        due.is("counter(0, 0)", x.counter(0, 0), 0);
        due.is("counter(15, 9)", x.counter(15, 9), 1);
        due.is("counter(1, 2)", x.counter(1, 2), 2);
        due.is("counter(8, 7)", x.counter(8, 7), 3);
        due.is("counter(8, 7), full", x.counter(8, 7), -4);
        due.is("counter(16, 7), full: BAD first", x.counter(16, 7), -2);
        due.is("counter(8, 10), full: BAD first", x.counter(8, 10), -2);
        due.is("count(3)", x.count(3), 4);
    }

    private static void changeAndTold() {
        NumbersCalled x = new NumbersCalled();
        due.is("change(0, 0, 0), no counter", x.change(0, 0, 0), -5);
        due.is("change(0, 9, 99), no counter: -5 first", x.change(0, 9, 99), -5);
        x.counter(5, 4);
        x.counter(6, 3);
        int[][] first = {{5, 4, -1}, {6, 3, -1}};
        int[][] most = {{15, 9, 119}, {0, 0, -1}};
        for (int c = 0; c < 2; c++) {
            for (int what = 0; what < 3; what++) {
                due.is("counterTold(" + c + ", " + what + ")", x.counterTold(c, what), first[c][what]);
            }
        }
        for (int what = 0; what < 3; what++) {
            int above = most[0][what] + 1;
            int below = most[1][what] - 1;
            due.is("change(1, " + what + ", most)", x.change(1, what, most[0][what]), first[1][what]);
            due.is("change(1, " + what + ", least)", x.change(1, what, most[1][what]), most[0][what]);
            due.is("change(1, " + what + ", above)", x.change(1, what, above), -7);
            due.is("change(1, " + what + ", below)", x.change(1, what, below), -7);
            due.is("change(2, " + what + ", above): -5 first", x.change(2, what, above), -5);
            due.is("change(-1, " + what + ", 0)", x.change(-1, what, 0), -5);
            due.is("counterTold(1, " + what + ")", x.counterTold(1, what), most[1][what]);
            due.is("counterTold(0, " + what + "), untouched", x.counterTold(0, what), first[0][what]);
        }
        due.is("change(0, 3, 0)", x.change(0, 3, 0), -7);
        due.is("change(0, -1, 0)", x.change(0, -1, 0), -7);
        due.is("counterTold(0, 3)", x.counterTold(0, 3), -7);
        due.is("counterTold(0, -1)", x.counterTold(0, -1), -7);
        due.is("counterTold(2, 3): -5 first", x.counterTold(2, 3), -5);
        due.is("counterTold(-1, 0)", x.counterTold(-1, 0), -5);
    }

    private static void set() {
        NumbersCalled x = new NumbersCalled();
        int[] first = {0, 3, 120};
        int[] least = {0, 1, 0};
        int[] most = {3, 9, 120};
        for (int what = 0; what < 3; what++) {
            due.is("set(" + what + ", above)", x.set(what, most[what] + 1), -2);
            due.is("set(" + what + ", below)", x.set(what, least[what] - 1), -2);
            due.is("count(" + what + "), untouched", x.count(what), first[what]);
            due.is("set(" + what + ", most)", x.set(what, most[what]), first[what]);
            due.is("set(" + what + ", least)", x.set(what, least[what]), most[what]);
            due.is("count(" + what + ")", x.count(what), least[what]);
        }
        due.is("set(3, 0)", x.set(3, 0), -1);
        due.is("set(-1, 0)", x.set(-1, 0), -1);
        due.is("set(3, -9): NONE first", x.set(3, -9), -1);
    }

    private static void count() {
        NumbersCalled x = new NumbersCalled();
        x.set(0, 2);
        x.set(1, 7);
        x.set(2, 33);
        x.counter(1, 1);
        x.counter(1, 1);
        x.pull(0, 10, 0);
        x.pull(0, 10, 0);
        x.pull(0, 10, 0);
        Due.law(x, "takes 1;waits 1;minds 1;");
        Due.text(x, "takes 1;waits 1;minds 1;");
        Due.feed(x, "takes 1");
        int[] want = {2, 7, 33, 2, 3, 3, 1, 7};
        for (int what = 0; what < want.length; what++) {
            due.is("count(" + what + ")", x.count(what), want[what]);
        }
        due.is("count(8)", x.count(8), -2);
        due.is("count(-1)", x.count(-1), -2);
    }

    private static void feed() {
        NumbersCalled x = new NumbersCalled();
        due.is("feed(0, ..)", x.feed(0, 1, 1, 1, 1, 1), -2);
        due.is("feed(6, ..)", x.feed(6, 1, 1, 1, 1, 1), -2);
        for (int bad : new int[] {-1, 256}) {
            due.is("feed: a " + bad, x.feed(1, bad, 1, 1, 1, 1), -2);
            due.is("feed: b " + bad, x.feed(1, 1, bad, 1, 1, 1), -2);
            due.is("feed: c " + bad, x.feed(1, 1, 1, bad, 1, 1), -2);
            due.is("feed: d " + bad, x.feed(1, 1, 1, 1, bad, 1), -2);
            due.is("feed: e " + bad, x.feed(1, 1, 1, 1, 1, bad), -2);
        }
        due.is("count(7) behind refusals", x.count(7), 0);
        due.is("feed(1, 0 ..)", x.feed(1, 0, 0, 0, 0, 0), 1);
        due.is("feed(2, 255 ..)", x.feed(2, 255, 255, 0, 0, 0), 3);
        for (int i = 0; i < 31; i++) {
            due.is("feed(5), " + i, x.feed(5, 97, 97, 97, 97, 97), 8 + 5 * i);
        }
        due.is("feed(3) with room for 2", x.feed(3, 97, 97, 97, 97, 97), -4);
        due.is("count(7) behind FULL", x.count(7), 158);
        due.is("feed(2) with room for 2", x.feed(2, 97, 97, 97, 97, 97), 160);
        due.is("feed(1) with no room", x.feed(1, 97, 97, 97, 97, 97), -4);
        due.is("feed(6) with no room: BAD first", x.feed(6, 97, 97, 97, 97, 97), -2);
        due.is("feed(1, .. 256) with no room: BAD first", x.feed(1, 97, 97, 97, 97, 256), -2);
        due.is("text() of it", x.text(), -100);
        due.is("count(7) behind the fault", x.count(7), 0);
        // only the first n come, in their order
        x.feed(2, 't', 'a', 'x', 'x', 'x');
        x.feed(4, 'k', 'e', 's', ' ', 'x');
        x.feed(3, '7', ';', 'w', 'x', 'x');
        x.feed(5, 'a', 'i', 't', 's', ' ');
        x.feed(1, '9', 'x', 'x', 'x', 'x');
        Due.feed(x, ";minds 1;");
        due.is("text() fed piece by piece", x.text(), 1);
        x.counter(1, 0);
        x.pull(0, 990, 0);
        x.force(1);
        due.is("TAKES by it", x.asks(0, 0, 0, 0, 0), 7);
        due.is("THERE by it, 9", x.asks(0, 0, 9, 0, 1), 1);
        due.is("THERE by it, 10", x.asks(0, 0, 10, 0, 1), 0);
    }

    private static void text() {
        NumbersCalled x = new NumbersCalled();
        due.is("text() of nothing", x.text(), -100);
        for (int t = 1; t < 6; t++) {
            due.is("text(), number " + t, Due.text(x, "takes " + t + ";waits 1;minds 1;"), t);
            due.is("count(7) behind it", x.count(7), 0);
        }
        due.is("count(5)", x.count(5), 6);
        due.is("text() of nothing: FULL first", x.text(), -4);
        Due.feed(x, "?");
        due.is("text() of a fault: FULL first", x.text(), -4);
        due.is("count(7): the tape stays", x.count(7), 1);
        due.is("count(6): none of them is the law", x.count(6), 0);
    }

    private static void force() {
        NumbersCalled x = new NumbersCalled();
        x.counter(1, 3);
        x.pull(0, 72, 0);
        due.is("force(1), no such", x.force(1), -2);
        due.is("force(-1)", x.force(-1), -2);
        due.is("force(0)", x.force(0), 0);
        due.is("TAKES by text 0: base + slow", x.asks(0, 0, 0, 0, 0), 10);
        due.is("THERE by text 0: 30 + 2 * 5", x.asks(0, 0, 40, 0, 1), 1);
        due.is("THERE by text 0, 41", x.asks(0, 0, 41, 0, 1), 0);
        due.is("minds by text 0: wait", x.asks(0, 0, 77, 5, 2), 77);
        Due.text(x, "takes 33;waits 1;minds 1;");
        Due.text(x, "takes 44;waits 1;minds 1;");
        due.is("force(2)", x.force(2), 0);
        due.is("TAKES by text 2", x.asks(0, 0, 0, 0, 0), 44);
        due.is("force(1)", x.force(1), 2);
        due.is("TAKES by text 1", x.asks(0, 0, 0, 0, 0), 33);
        due.is("force(3)", x.force(3), -2);
        due.is("count(6)", x.count(6), 1);
    }
}
