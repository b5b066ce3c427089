/** Promises 10 to 14: askers. */
public final class AskerTest {
    private static final Due due = new Due("AskerTest");

    public static void main(String[] args) {
        pull();
        move();
        forget();
        told();
        asksThere();
        asksTakesAndMinds();
        asksRefusals();
        due.end();
    }

    private static void pull() {
        NumbersCalled x = new NumbersCalled();
        due.is("pull(-1, 10, 0)", x.pull(-1, 10, 0), -2);
        due.is("pull(6, 10, 0)", x.pull(6, 10, 0), -2);
        for (int what : new int[] {-1, -10, -1010, 0, 9, 1000, 1009, 3000, 3009, 4000, 4010, 4999, 2147483647, -2147483648}) {
            due.is("pull(0, " + what + ", 0)", x.pull(0, what, 0), -2);
        }
        due.is("pull(0, 10, -1)", x.pull(0, 10, -1), -2);
        due.is("pull(0, 10, 120)", x.pull(0, 10, 120), -2);
        due.is("count(4) behind refusals", x.count(4), 0);
        due.is("pull(0, 10, 0)", x.pull(0, 10, 0), 0);
        due.is("pull(5, 3999, 119)", x.pull(5, 3999, 119), 1);
        for (int a = 2; a < 16; a++) {
            due.is("pull, number " + a, x.pull(a % 6, 10 + a, a), a);
        }
        due.is("pull, full", x.pull(0, 10, 0), -4);
        due.is("pull(6, ..), full: BAD first", x.pull(6, 10, 0), -2);
        due.is("pull(.., 0, ..), full: BAD first", x.pull(0, 0, 0), -2);
        due.is("pull(.., 120), full: BAD first", x.pull(0, 10, 120), -2);
        due.is("count(4)", x.count(4), 16);
    }

    private static void move() {
        NumbersCalled x = new NumbersCalled();
        due.is("move(0, 0), none", x.move(0, 0), -5);
        x.pull(0, 10, 7);
        x.pull(0, 10, 8);
        due.is("move(1, 119)", x.move(1, 119), 8);
        due.is("move(1, 0)", x.move(1, 0), 119);
        due.is("move(1, 120)", x.move(1, 120), -7);
        due.is("move(1, -1)", x.move(1, -1), -7);
        due.is("move(2, 120): -5 first", x.move(2, 120), -5);
        due.is("move(-1, 0)", x.move(-1, 0), -5);
        due.is("told(1, 4)", x.told(1, 4), 0);
        due.is("told(0, 4)", x.told(0, 4), 7);
    }

    private static void forget() {
        NumbersCalled x = new NumbersCalled();
        due.is("forget(), none", x.forget(), -3);
        x.pull(0, 10, 7);
        x.pull(1, 20, 8);
        x.image();
        x.pull(2, 1030, 9);
        due.is("forget() of one that came since the image", x.forget(), 2);
        due.is("told(2, 0)", x.told(2, 0), -5);
        due.is("count(4)", x.count(4), 2);
        due.is("back(): the image is there", x.back(), 2);
        due.is("pull takes the number", x.pull(3, 2040, 10), 2);
        due.is("told(2, 0)", x.told(2, 0), 3);
        due.is("forget()", x.forget(), 2);
        due.is("forget() of one that the image has", x.forget(), 1);
        due.is("back(): no image", x.back(), -3);
        due.is("pull again", x.pull(1, 20, 8), 1);
        due.is("back(): no image yet", x.back(), -3);
        due.is("image()", x.image(), 2);
        due.is("back()", x.back(), 2);
        due.is("forget()", x.forget(), 1);
        due.is("forget()", x.forget(), 0);
        due.is("forget(), none again", x.forget(), -3);
        due.is("image() of none", x.image(), 0);
        x.pull(0, 10, 0);
        due.is("forget()", x.forget(), 0);
        due.is("back(): that image has none", x.back(), 0);
    }

    private static void told() {
        NumbersCalled x = new NumbersCalled();
        int[] needs = {3, 3, 0, 3, 3, 3};
        for (int kind = 0; kind < 6; kind++) {
            x.pull(kind, 3000 + 10 * (90 + kind) + 9 - kind, 119 - kind);
        }
        for (int kind = 0; kind < 6; kind++) {
            int[] want = {kind, 3, 90 + kind, 9 - kind, 119 - kind, needs[kind]};
            for (int what = 0; what < 6; what++) {
                due.is("told(" + kind + ", " + what + ")", x.told(kind, what), want[what]);
            }
        }
        due.is("told(0, 6)", x.told(0, 6), -7);
        due.is("told(0, -1)", x.told(0, -1), -7);
        due.is("told(6, 6): -5 first", x.told(6, 6), -5);
        due.is("told(-1, 0)", x.told(-1, 0), -5);
        x.pull(2, 10, 0);
        x.pull(2, 2010, 0);
        due.is("told(6, 5): behind 0", x.told(6, 5), 1);
        due.is("told(7, 5): behind 2", x.told(7, 5), 3);
    }

    /** Waits 30 + 5 * 4: 50. An OFF and a SOLD with more 4 are there from 0 to 5, 12 to 17 .. */
    private static void asksThere() {
        NumbersCalled x = new NumbersCalled();
        x.counter(1, 0);
        for (int kind = 0; kind < 6; kind++) {
            x.pull(kind, 104, 50);
        }
        for (int wait = 0; wait < 140; wait++) {
            boolean patient = wait <= 50;
            boolean even = wait % 12 < 6;
            boolean[] want = {patient, patient && even, patient, patient, patient,
                wait >= 30 || even};
            for (int kind = 0; kind < 6; kind++) {
                due.is("THERE, kind " + kind + ", wait " + wait, x.asks(kind, 0, wait, 0, 1), want[kind] ? 1 : 0);
            }
            if (wait == 60) {
                x = againWith();
            }
        }
        NumbersCalled y = againWith();
        due.is("SOLD at 999", y.asks(5, 0, 999, 0, 1), 1);
        due.is("ASKER at 999", y.asks(0, 0, 999, 0, 1), 0);
        // waits 3: a SOLD is not there between 4 and 29
        Due.law(y, "takes 1;waits 3;minds 1;");
        due.is("SOLD at 3", y.asks(5, 0, 3, 0, 1), 1);
        due.is("SOLD at 4", y.asks(5, 0, 4, 0, 1), 0);
        due.is("SOLD at 29", y.asks(5, 0, 29, 0, 1), 0);
        due.is("SOLD at 30", y.asks(5, 0, 30, 0, 1), 1);
        // more 0: spells of 2 minutes
        y.pull(1, 100, 0);
        Due.law(y, "takes 1;waits 999;minds 1;");
        int[] spells = {1, 1, 0, 0, 1, 1, 0, 0};
        for (int wait = 0; wait < spells.length; wait++) {
            due.is("OFF with more 0 at " + wait, y.asks(6, 0, wait, 0, 1), spells[wait]);
        }
    }

    /** 512 calls are all that an object is used for. */
    private static NumbersCalled againWith() {
        NumbersCalled x = new NumbersCalled();
        x.counter(1, 0);
        for (int kind = 0; kind < 6; kind++) {
            x.pull(kind, 104, 50);
        }
        return x;
    }

    private static void asksTakesAndMinds() {
        NumbersCalled x = new NumbersCalled();
        x.counter(1, 0);
        x.counter(1, 9);
        for (int kind = 0; kind < 6; kind++) {
            x.pull(kind, 204, 50);
        }
        for (int kind = 0; kind < 6; kind++) {
            due.is("TAKES at 0, kind " + kind, x.asks(kind, 0, 0, 0, 0), kind == 3 ? 40 : 20);
            due.is("TAKES at 1, kind " + kind, x.asks(kind, 1, 0, 0, 0), kind == 3 ? 58 : 29);
            due.is("minds, kind " + kind, x.asks(kind, 1, 999, 0, 2), 999);
        }
        x.pull(3, 300, 0);
        x.pull(3, 310, 0);
        x.pull(3, 990, 0);
        x.pull(0, 990, 0);
        due.is("a BACK of 30", x.asks(6, 0, 0, 0, 0), 60);
        due.is("a BACK of 31", x.asks(7, 0, 0, 0, 0), 60);
        due.is("a BACK of 99", x.asks(8, 0, 0, 0, 0), 60);
        due.is("an ASKER of 99", x.asks(9, 0, 0, 0, 0), 60);
        Due.law(x, "takes 0 - 5;waits wait;minds 3 * said - wait;");
        due.is("a BACK of less than 1: twice 1", x.asks(3, 0, 0, 0, 0), 2);
        due.is("minds 3 * said - wait", x.asks(3, 0, 10, 20, 2), 50);
        due.is("minds 3 * said - wait, below", x.asks(3, 0, 10, 3, 2), 0);
        due.is("minds 3 * said - wait, above", x.asks(3, 0, 10, 999, 2), 999);
    }

    private static void asksRefusals() {
        NumbersCalled x = new NumbersCalled();
        x.counter(1, 0);
        due.is("asks, no asker", x.asks(0, 0, 0, 0, 0), -5);
        x.pull(0, 10, 0);
        due.is("asks, no counter", x.asks(0, 1, 0, 0, 0), -5);
        due.is("asks, counter -1", x.asks(0, -1, 0, 0, 0), -5);
        due.is("asks, asker -1", x.asks(-1, 0, 0, 0, 0), -5);
        due.is("asks, no asker, all else wrong: -5 first", x.asks(1, 0, -1, -1, 3), -5);
        due.is("asks, no counter, all else wrong: -5 first", x.asks(0, 1, -1, -1, 3), -5);
        for (int what = 0; what < 3; what++) {
            due.is("asks, wait -1", x.asks(0, 0, -1, 0, what), -7);
            due.is("asks, wait 1000", x.asks(0, 0, 1000, 0, what), -7);
            due.is("asks, said -1", x.asks(0, 0, 0, -1, what), -7);
            due.is("asks, said 1000", x.asks(0, 0, 0, 1000, what), -7);
        }
        due.is("asks, what 3", x.asks(0, 0, 0, 0, 3), -7);
        due.is("asks, what -1", x.asks(0, 0, 0, 0, -1), -7);
        due.is("asks, most", x.asks(0, 0, 999, 999, 2), 999);
    }
}
