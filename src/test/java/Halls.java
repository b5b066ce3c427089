/** The halls in which the tests of the edges call: an empty one, one with some of all, a full one. */
final class Halls {
    static final Bounds.Hall EMPTY = NumbersCalled::new;
    static final Bounds.Hall SOME = Halls::some;
    static final Bounds.Hall FULL = Halls::full;
    static final int SOME_COUNTERS = 2, SOME_ASKERS = 3, SOME_TEXTS = 3;

    private Halls() {
    }

    /** Sheets 0 bytes, 1 shorts, 2 ints (when each ends), 3 missing. */
    private static NumbersCalled some() {
        NumbersCalled x = new NumbersCalled();
        x.counter(5, 4);
        x.counter(3, 0);
        x.change(1, 2, 30);
        x.pull(0, 120, 7);
        x.pull(2, 1053, 8);
        x.pull(1, 2204, 30);
        x.set(0, 2);
        x.set(1, 4);
        x.set(2, 90);
        Due.text(x, "takes 9;waits 40;minds wait;");
        Due.law(x, "takes base + 2 * slow;waits 20 + more;minds wait - said;");
        Due.feed(x, "takes 5;waits 7;minds 8;");
        x.sheet(0, 0, 6);
        x.sheet(1, 1, 9);
        triples(x, 0, 6);
        triples(x, 1, 9);
        x.film(2);
        x.image();
        x.move(1, 9);
        x.change(0, 1, 5);
        return x;
    }

    private static NumbersCalled full() {
        NumbersCalled x = new NumbersCalled();
        for (int c = 0; c < 4; c++) {
            x.counter(3 + c, c);
        }
        for (int a = 0; a < 16; a++) {
            x.pull(a % 6, 1000 * (a % 4) + 10 * (5 + a) + a % 10, 7 * a);
        }
        for (int t = 1; t < 6; t++) {
            Due.text(x, "takes base - slow;waits 30 + " + t + " * more;minds wait;");
        }
        x.force(5);
        Due.feed(x, tape(160));
        for (int s = 0; s < 4; s++) {
            x.sheet(s, s % 3, 40);
            triples(x, s, 6);
            x.cell(s, 39, 100 + s);
        }
        x.image();
        x.move(15, 1);
        return x;
    }

    /** A text of so many bytes, of which none is a blank at the end. */
    static String tape(int size) {
        StringBuilder b = new StringBuilder("takes 1;waits 1;minds ");
        while (b.length() < size - 2) {
            b.append(' ');
        }
        return b.append("1;").toString();
    }

    private static void triples(NumbersCalled x, int s, int n) {
        for (int i = 0; i < n; i++) {
            x.cell(s, i, i % 3 == 0 ? i / 3 % 6 : i % 3 == 1 ? 50 + i : i + 1);
        }
    }

    /** One counter that does letter 0, slow 0. */
    static NumbersCalled one() {
        NumbersCalled x = new NumbersCalled();
        x.counter(1, 0);
        return x;
    }

    /** One counter, a law, and nobody yet. */
    static NumbersCalled by(String law) {
        NumbersCalled x = one();
        Due.law(x, law);
        return x;
    }

    static void pull(NumbersCalled x, int times, int kind, int what, int minute) {
        for (int i = 0; i < times; i++) {
            x.pull(kind, what, minute);
        }
    }

    /** Five more texts: there are six. */
    static NumbersCalled sixTexts(NumbersCalled x) {
        for (int t = 1; t < 6; t++) {
            Due.text(x, "takes " + t + ";waits 999;minds " + t + ";");
        }
        return x;
    }
}
