import java.util.Random;

/** Runs of calls by lot (always the same ones), on the class and on the model. */
public final class ModelTest {
    private static final Due due = new Due("ModelTest");
    private static final String[] WORDS = {"takes", "waits", "minds", "or", "and", "not", "base", "more", "slow",
        "wait", "said", "letter", "(", ")", ";", "+", "-", "*", "<", "=", "7", "12345", "a", "?", " "};

    private final Random lot;
    private final NumbersCalled x = new NumbersCalled();
    private final Model m = new Model();
    private final StringBuilder told = new StringBuilder();
    private final boolean wild;
    private int left = 512;

    private ModelTest(long seed, boolean wild) {
        lot = new Random(seed);
        this.wild = wild;
    }

    public static void main(String[] args) {
        int runs = args.length > 1 ? Integer.parseInt(args[1]) : 700;
        for (int seed = 0; seed < runs && !due.isWrong(); seed++) {
            ModelTest run = new ModelTest(seed, seed % 8 == 7);
            run.run();
            if (due.isWrong()) {
                System.out.println("seed " + seed + ":\n" + run.told);
            }
        }
        due.end();
    }

    private void run() {
        int calls = 60 + lot.nextInt(140);
        int counters = 1 + lot.nextInt(4);
        for (int c = 0; c < counters; c++) {
            step(0);
        }
        int askers = lot.nextInt(19);
        for (int i = 0; i < askers; i++) {
            step(9);
        }
        for (int i = 0; i < calls && left > 0 && !due.isWrong(); i++) {
            step(lot.nextInt(52));
        }
    }

    private void is(String call, long got, long want) {
        left--;
        told.append(call).append(" = ").append(got).append('\n');
        due.is(call, got, want);
    }

    /** Mostly between, now and then beside; in a wild run anything. */
    private int of(int least, int most) {
        int r = lot.nextInt(wild ? 12 : 60);
        if (r == 0) {
            return least - 1;
        }
        if (r == 1) {
            return most + 1;
        }
        if (r == 2 && wild) {
            return lot.nextInt();
        }
        if (r == 3 && wild) {
            return lot.nextBoolean() ? Integer.MAX_VALUE : Integer.MIN_VALUE;
        }
        return r == 4 ? least : r == 5 ? most : least + lot.nextInt(most - least + 1);
    }

    private int asker() {
        return of(0, Math.max(0, x.count(4) - 1));
    }

    private int counter() {
        return of(0, Math.max(0, x.count(3) - 1));
    }

    private int what() {
        int base = lot.nextInt(3) == 0 ? 1 + lot.nextInt(99) : 3 + lot.nextInt(20);
        return lot.nextInt(25) == 0 ? of(0, 4000) : 1000 * lot.nextInt(wild ? 4 : 2) + 10 * base + lot.nextInt(10);
    }

    private int minute() {
        return lot.nextInt(3) == 0 ? of(0, 119) : lot.nextInt(8) * lot.nextInt(16);
    }

    private void step(int kind) {
        left -= 2;
        if (kind < 9) {
            hallStep(kind);
        } else if (kind < 22) {
            askerStep(kind);
        } else if (kind < 38) {
            betterStep(kind);
        } else {
            hostStep(kind);
        }
    }

    private void hallStep(int kind) {
        int a = counter();
        int b = of(0, 2);
        int c = b == 0 ? of(0, 15) : b == 1 ? of(0, 9) : of(-1, 119);
        switch (kind) {
            case 0: case 1: {
                int letters = of(0, 15) | (wild ? 0 : lot.nextInt(4));
                int slow = of(0, 9);
                is("counter(" + letters + ", " + slow + ")", x.counter(letters, slow), m.counter(letters, slow));
                break;
            }
            case 2: is("change(" + a + ", " + b + ", " + c + ")", x.change(a, b, c), m.change(a, b, c)); break;
            case 3: is("counterTold(" + a + ", " + b + ")", x.counterTold(a, b), m.counterTold(a, b)); break;
            case 4: case 5: {
                int v = b == 0 ? of(0, 3) : b == 1 ? of(1, 9) : Math.max(of(0, 120), lot.nextInt(121));
                is("set(" + b + ", " + v + ")", x.set(b, v), m.set(b, v));
                break;
            }
            case 6: {
                int what = of(0, 7);
                is("count(" + what + ")", x.count(what), m.count(what));
                break;
            }
            case 7: text(); break;
            default: {
                int t = of(0, x.count(5) - 1);
                is("force(" + t + ")", x.force(t), m.force(t));
                break;
            }
        }
    }

    private void askerStep(int kind) {
        int a = asker();
        int c = counter();
        switch (kind) {
            case 9: case 10: case 11: {
                int k = of(0, 5);
                int what = what();
                int minute = minute();
                is("pull(" + k + ", " + what + ", " + minute + ")", x.pull(k, what, minute), m.pull(k, what, minute));
                break;
            }
            case 12: {
                int minute = minute();
                is("move(" + a + ", " + minute + ")", x.move(a, minute), m.move(a, minute));
                break;
            }
            case 13: is("forget()", x.forget(), m.forget()); break;
            case 14: {
                int what = of(0, 5);
                is("told(" + a + ", " + what + ")", x.told(a, what), m.told(a, what));
                break;
            }
            case 15: case 16: case 17: {
                int wait = lot.nextInt(4) > 0 ? of(0, 90) : of(0, 999);
                int said = of(0, 999);
                int what = of(0, 2);
                is("asks(" + a + ", " + c + ", " + wait + ", " + said + ", " + what + ")",
                        x.asks(a, c, wait, said, what), m.asks(a, c, wait, said, what));
                break;
            }
            case 18: case 19: {
                int what = of(0, 5);
                is("of(" + a + ", " + what + ")", x.of(a, what), m.of(a, what));
                break;
            }
            case 20: {
                int what = of(0, 7);
                is("sum(" + what + ")", x.sum(what), m.sum(what));
                break;
            }
            default: is("idle(" + c + ")", x.idle(c), m.idle(c)); break;
        }
    }

    private void betterStep(int kind) {
        int a = asker();
        int c = counter();
        int what = of(0, 1);
        switch (kind) {
            case 22: is("harmed()", x.harmed(), m.harmed()); break;
            case 23: is("letter(" + c + ", " + what + ")", x.letter(c, what), m.letter(c, what)); break;
            case 24: {
                int most = lot.nextInt(3) == 0 ? of(0, 999) : of(0, 40);
                is("train(" + most + ", " + what + ")", x.train(most, what), m.train(most, what));
                break;
            }
            case 25: is("rest(" + c + ", " + what + ")", x.rest(c, what), m.rest(c, what)); break;
            case 26: {
                int by = lot.nextInt(3) == 0 ? of(0, 999) : of(0, 200);
                is("stop(" + by + ")", x.stop(by), m.stop(by));
                break;
            }
            case 27: is("call(" + what + ")", x.call(what), m.call(what)); break;
            case 28: {
                int by = of(1, 3);
                is("pay(" + by + ")", x.pay(by), m.pay(by));
                break;
            }
            case 29: is("door(" + what + ")", x.door(what), m.door(what)); break;
            case 30: is("say(" + what + ")", x.say(what), m.say(what)); break;
            case 31: is("best(" + a + ", " + what + ")", x.best(a, what), m.best(a, what)); break;
            case 32: is("uneasy()", x.uneasy(), m.uneasy()); break;
            case 33: {
                int days = lot.nextInt(3) > 0 ? 0 : of(0, 5);
                is("rests(" + days + ")", x.rests(days), m.rests(days));
                break;
            }
            case 34: {
                int letter = of(0, 3);
                int base = of(1, 99);
                is("when(" + letter + ", " + base + ", " + what + ")",
                        x.when(letter, base, what), m.when(letter, base, what));
                break;
            }
            case 35: {
                int n = of(0, 40);
                int h = of(0, 100);
                int seats = lot.nextInt(2) == 0 ? of(0, 40) : n * h / 100;
                is("over(" + n + ", " + h + ", " + seats + ")", x.over(n, h, seats), m.over(n, h, seats));
                break;
            }
            case 36: {
                int h = of(0, 100);
                int seats = of(0, 40);
                int risk = lot.nextInt(3) == 0 ? of(0, 1000) : of(0, 60);
                is("give(" + h + ", " + seats + ", " + risk + ")", x.give(h, seats, risk), m.give(h, seats, risk));
                break;
            }
            default: {
                int seed = of(0, 99999);
                int seeds = of(1, 20);
                int by = lot.nextInt(3) == 0 ? of(0, 999) : of(60, 200);
                is("odds(" + seed + ", " + seeds + ", " + by + ", " + what + ")",
                        x.odds(seed, seeds, by, what), m.odds(seed, seeds, by, what));
                break;
            }
        }
    }

    private void hostStep(int kind) {
        int s = of(0, 3);
        int i = of(0, 12);
        switch (kind) {
            case 38: is("judge(" + s + ")", x.judge(s), m.judge(s)); break;
            case 39: is("laws(" + s + ")", x.laws(s), m.laws(s)); break;
            case 40: is("which(" + s + ")", x.which(s), m.which(s)); break;
            case 41: case 42: is("film(" + s + ")", x.film(s), m.film(s)); break;
            case 43: {
                int seed = of(0, 99999);
                int what = of(0, 7);
                is("drawn(" + seed + ", " + what + ")", x.drawn(seed, what), m.drawn(seed, what));
                break;
            }
            case 44: is("image()", x.image(), m.image()); break;
            case 45: is("back()", x.back(), m.back()); break;
            case 46: {
                int sort = of(-1, 2);
                int n = lot.nextInt(3) == 0 ? of(0, 40) : lot.nextInt(3) == 0 ? x.count(4) : of(3, 15);
                is("sheet(" + s + ", " + sort + ", " + n + ")", x.sheet(s, sort, n), m.sheet(s, sort, n));
                break;
            }
            case 47: case 48: cells(s, i); break;
            case 49: {
                int other = of(0, 3);
                int j = of(0, 4);
                int n = of(0, 9);
                is("copy(" + s + ", " + i + ", " + other + ", " + j + ", " + n + ")",
                        x.copy(s, i, other, j, n), m.copy(s, i, other, j, n));
                break;
            }
            case 50: {
                int sort = of(0, 2);
                int at = of(0, 5);
                int n = lot.nextInt(3) > 0 ? of(0, 3) : of(0, 13);
                is("pulls(" + s + ", " + sort + ", " + at + ", " + n + ")",
                        x.pulls(s, sort, at, n), m.pulls(s, sort, at, n));
                break;
            }
            default: {
                int place = of(0, 19);
                int as = of(0, 6);
                is("taken(" + place + ", " + as + ")", x.taken(place, as), m.taken(place, as));
                break;
            }
        }
    }

    private void cells(int s, int i) {
        int[] v = {of(0, 5), what(), minute()};
        for (int k = 0; k < 3; k++) {
            int n = lot.nextInt(9) == 0 ? -1 : lot.nextInt(20) == 0 ? lot.nextInt() : v[k];
            is("cell(" + s + ", " + (i + k) + ", " + n + ")", x.cell(s, i + k, n), m.cell(s, i + k, n));
        }
    }

    // ---- texts by lot

    private void text() {
        String text;
        if (lot.nextInt(9) == 0) {
            text = noise();
        } else {
            text = "takes " + e(3) + ";waits " + (lot.nextBoolean() ? "40+" : "") + e(3) + ";minds " + e(3) + ";";
            if (lot.nextInt(4) == 0) {
                text = spoiled(text);
            }
        }
        text = text.substring(0, Math.min(160, text.length()));
        told.append("text: ").append(text).append('\n');
        for (int i = 0; i < text.length(); i += 5) {
            int n = Math.min(5, text.length() - i);
            int[] b = new int[5];
            for (int k = 0; k < n; k++) {
                b[k] = text.charAt(i + k);
            }
            is("feed", x.feed(n, b[0], b[1], b[2], b[3], b[4]), m.feed(n, b[0], b[1], b[2], b[3], b[4]));
        }
        if (lot.nextInt(12) > 0) {
            is("text()", x.text(), m.text());
        }
    }

    private String noise() {
        StringBuilder b = new StringBuilder("takes ");
        int n = lot.nextInt(12);
        for (int i = 0; i < n; i++) {
            b.append(WORDS[lot.nextInt(WORDS.length)]).append(lot.nextBoolean() ? " " : "");
        }
        return b.toString();
    }

    private String spoiled(String text) {
        StringBuilder b = new StringBuilder(text);
        int at = lot.nextInt(b.length());
        switch (lot.nextInt(4)) {
            case 0: b.deleteCharAt(at); break;
            case 1: b.insert(at, WORDS[lot.nextInt(WORDS.length)]); break;
            case 2: b.setCharAt(at, (char) lot.nextInt(256)); break;
            default: b.setLength(at); break;
        }
        return b.toString();
    }

    /** Often short, so that three fit on a tape. */
    private String e(int deep) {
        String[] names = {"base", "more", "slow", "wait", "said", "letter"};
        int r = deep <= 0 ? lot.nextInt(8) : lot.nextInt(26);
        if (r < 5) {
            return names[lot.nextInt(6)];
        }
        if (r < 8) {
            return "" + (lot.nextInt(6) == 0 ? lot.nextInt(10000) : lot.nextInt(40));
        }
        if (r < 10) {
            return "(" + e(deep - 1) + ")";
        }
        if (r < 12) {
            return "-" + e(deep - 2);
        }
        if (r < 14) {
            return "not " + e(deep - 1);
        }
        String[] signs = {"+", "+", "+", "*", "-", "-", "<", "=", " and ", " or ", "+", "*"};
        return e(deep - 2) + signs[r - 14] + e(deep - 1);
    }
}
