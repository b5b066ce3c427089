import java.math.BigInteger;
import java.util.ArrayList;
import java.util.Arrays;
import java.util.Comparator;
import java.util.List;
import java.util.Map;
import java.util.function.Consumer;
import java.util.function.ToIntFunction;

/**
 * The document read a second time, as plainly and as slowly as can be: kinds are classes, a text is
 * a tree, each day that is tried is lived in a hall copied whole. Only ModelTest uses it.
 */
final class Model {
    static final long NO = -4611686018427387904L;

    // ---- kinds

    static class Ask {
        int kind;
        int letter;
        int base;
        int more;

        boolean there(int minutes, int waits) {
            return minutes <= waits;
        }

        int needs() {
            return letter;
        }

        int takes(int takes) {
            return takes;
        }

        boolean old() {
            return false;
        }
    }

    static class Off extends Ask {
        @Override boolean there(int minutes, int waits) {
            return super.there(minutes, waits) && (minutes / (more + 2)) % 2 == 0;
        }
    }

    static class Wrong extends Ask {
        @Override int needs() {
            return letter == 3 ? 0 : letter + 1;
        }
    }

    static class Back extends Wrong {
        @Override int needs() {
            return letter;
        }

        @Override int takes(int takes) {
            return Math.min(60, 2 * super.takes(takes));
        }
    }

    static class Old extends Ask {
        @Override boolean old() {
            return true;
        }
    }

    static class Sold extends Off {
        @Override boolean there(int minutes, int waits) {
            return minutes >= 30 || super.there(minutes, waits);
        }
    }

    static final List<Class<? extends Ask>> KINDS =
            List.of(Ask.class, Off.class, Wrong.class, Back.class, Old.class, Sold.class);

    static Ask ask(int kind) {
        Ask one = List.of(new Ask(), new Off(), new Wrong(), new Back(), new Old(), new Sold()).get(kind);
        one.kind = kind;
        return one;
    }

    // ---- texts

    interface E {
        int of(Map<String, Integer> names);
    }

    static final class Fault extends RuntimeException {
        private static final long serialVersionUID = 1L;
        final int place;

        Fault(int place) {
            super(null, null, false, false);
            this.place = place;
        }
    }

    record Token(int place, String what) { }

    static final List<String> NAMES = List.of("base", "more", "slow", "wait", "said", "letter");
    static final List<String> KEYS = List.of("takes", "waits", "minds", "or", "and", "not");

    /** A byte that begins none is the token "?". */
    static List<Token> tokens(String tape) {
        List<Token> all = new ArrayList<>();
        int i = 0;
        while (i < tape.length()) {
            char c = tape.charAt(i);
            int from = i;
            if (c == ' ' || c == '\n') {
                i++;
                continue;
            }
            if (c >= 'a' && c <= 'z') {
                while (i < tape.length() && tape.charAt(i) >= 'a' && tape.charAt(i) <= 'z') {
                    i++;
                }
            } else if (c >= '0' && c <= '9') {
                while (i < tape.length() && tape.charAt(i) >= '0' && tape.charAt(i) <= '9') {
                    i++;
                }
            } else {
                i++;
                all.add(new Token(from, "();+-*<=".indexOf(c) >= 0 ? "" + c : "?"));
                continue;
            }
            all.add(new Token(from, tape.substring(from, i)));
        }
        all.add(new Token(tape.length(), ""));
        return all;
    }

    static final class Reading {
        final List<Token> tokens;
        int at = 0;
        int open = 0;

        Reading(String tape) {
            tokens = tokens(tape);
        }

        E[] text() {
            E[] parts = new E[3];
            for (int i = 0; i < 3; i++) {
                take(KEYS.get(i));
                parts[i] = e();
                take(";");
            }
            take("");
            return parts;
        }

        boolean sees(String what) {
            return tokens.get(at).what().equals(what);
        }

        Fault fault() {
            return new Fault(tokens.get(at).place());
        }

        void take(String what) {
            if (!sees(what)) {
                throw fault();
            }
            at++;
        }

        void open() {
            if (open == 5) {
                throw fault();
            }
            open++;
            at++;
        }

        E e() {
            E left = and();
            while (sees("or")) {
                at++;
                E a = left;
                E b = and();
                left = n -> a.of(n) != 0 | b.of(n) != 0 ? 1 : 0;
            }
            return left;
        }

        E and() {
            E left = not();
            while (sees("and")) {
                at++;
                E a = left;
                E b = not();
                left = n -> a.of(n) != 0 & b.of(n) != 0 ? 1 : 0;
            }
            return left;
        }

        E not() {
            if (sees("not")) {
                open();
                E a = not();
                open--;
                return n -> a.of(n) == 0 ? 1 : 0;
            }
            E a = sum();
            if (sees("<")) {
                at++;
                E b = sum();
                return n -> a.of(n) < b.of(n) ? 1 : 0;
            }
            if (sees("=")) {
                at++;
                E b = sum();
                return n -> a.of(n) == b.of(n) ? 1 : 0;
            }
            return a;
        }

        E sum() {
            E left = term();
            while (sees("+") || sees("-")) {
                boolean plus = sees("+");
                at++;
                E a = left;
                E b = term();
                left = n -> plus ? a.of(n) + b.of(n) : a.of(n) - b.of(n);
            }
            return left;
        }

        E term() {
            E left = one();
            while (sees("*")) {
                at++;
                E a = left;
                E b = one();
                left = n -> a.of(n) * b.of(n);
            }
            return left;
        }

        E one() {
            String what = tokens.get(at).what();
            if (sees("-")) {
                open();
                E a = one();
                open--;
                return n -> -a.of(n);
            }
            if (sees("(")) {
                open();
                E a = e();
                take(")");
                open--;
                return a;
            }
            if (NAMES.contains(what)) {
                at++;
                return n -> n.get(what);
            }
            if (what.matches("[0-9]{1,4}")) {
                at++;
                return n -> Integer.parseInt(what);
            }
            throw fault();
        }
    }

    // ---- the hall: all that a day needs, and can be copied whole

    static final class Hall {
        List<int[]> counters = new ArrayList<>();
        List<Ask> askers = new ArrayList<>();
        List<Integer> comes = new ArrayList<>();
        int[] set = {0, 3, 120};
        int law = 0;
        boolean backsAsWrong = false;
        boolean pullNeeded = false;

        Hall copy() {
            Hall h = new Hall();
            for (int[] c : counters) {
                h.counters.add(c.clone());
            }
            h.askers.addAll(askers);
            h.comes.addAll(comes);
            h.set = set.clone();
            h.law = law;
            return h;
        }

        Hall with(Consumer<Hall> change) {
            Hall h = copy();
            change.accept(h);
            return h;
        }
    }

    private Hall hall = new Hall();
    private Hall image = null;
    private final List<E[]> texts = new ArrayList<>();
    private String tape = "";
    private final int[][] sheets = new int[4][];
    private final int[] sorts = new int[4];

    Model() {
        texts.add(new Reading("takes base + slow ; waits 30 + more * 5 ; minds wait ;").text());
    }

    private static int bound(int v, int least, int most) {
        return Math.max(least, Math.min(most, v));
    }

    private static boolean out(int v, int least, int most) {
        return v < least || v > most;
    }

    private int e(Hall h, int part, Ask one, int slow, int wait, int said) {
        return texts.get(h.law)[part].of(Map.of("base", one.base, "more", one.more, "slow", slow,
                "wait", wait, "said", said, "letter", one.letter));
    }

    private int takes(Hall h, Ask one, int slow, int wait) {
        int t = bound(e(h, 0, one, slow, wait, 0), 1, 60);
        return h.backsAsWrong && one instanceof Back ? t : one.takes(t);
    }

    private boolean there(Hall h, Ask one, int wait) {
        return one.there(wait, bound(e(h, 1, one, 0, wait, 0), 0, 999));
    }

    private int minds(Hall h, Ask one, int wait, int said) {
        return bound(e(h, 2, one, 0, wait, said), 0, 999);
    }

    // ---- a day

    enum Fate { NOT_COME, WAITS, SERVED, MISSED, AWAY }

    static final class Life {
        int number;
        Ask one;
        int comes;
        int letter;
        Fate fate = Fate.NOT_COME;
        int begin = -1;
        int end = -1;
        int counter = -1;
        int called = 0;

        int waited() {
            return fate == Fate.SERVED ? begin - comes : -1;
        }
    }

    final class Day {
        final Hall h;
        final List<Life> lives = new ArrayList<>();
        final int[] idle = new int[4];
        final int[] busyTill = new int[4];
        final Comparator<Life> first;

        Day(Hall h) {
            this.h = h;
            first = first();
            for (int a = 0; a < h.askers.size(); a++) {
                Life l = new Life();
                l.number = a;
                l.one = h.askers.get(a);
                l.comes = h.comes.get(a);
                l.letter = h.pullNeeded ? l.one.needs() : l.one.letter;
                lives.add(l);
            }
            for (int minute = 0; minute < 240; minute++) {
                live(minute);
            }
        }

        Comparator<Life> first() {
            Comparator<Life> who = switch (h.set[0]) {
                case 1 -> Comparator.comparing((Life l) -> !l.one.old());
                case 2 -> Comparator.comparing((Life l) -> l.one.base);
                case 3 -> Comparator.comparing((Life l) -> !(l.one instanceof Back));
                default -> Comparator.comparing((Life l) -> 0);
            };
            return who.thenComparing((Life l) -> l.comes).thenComparing((Life l) -> l.number);
        }

        void live(int minute) {
            for (Life l : lives) {
                if (l.comes == minute) {
                    l.fate = minute >= h.set[2] ? Fate.AWAY : Fate.WAITS;
                }
            }
            for (int c = 0; c < h.counters.size(); c++) {
                int[] counter = h.counters.get(c);
                boolean pause = counter[2] != -1 && minute >= counter[2] && minute < counter[2] + 10;
                if (busyTill[c] > minute || pause) {
                    continue;
                }
                Life l = null;
                for (Life o : lives) {
                    boolean canBe = o.fate == Fate.WAITS && (counter[0] & 1 << o.letter) != 0;
                    l = canBe && (l == null || first.compare(o, l) < 0) ? o : l;
                }
                if (l == null) {
                    idle[c]++;
                } else {
                    call(l, c, counter, minute);
                }
            }
        }

        void call(Life l, int c, int[] counter, int minute) {
            l.called++;
            busyTill[c] = minute + 1;
            if (!there(h, l.one, minute - l.comes)) {
                if (l.called >= h.set[1]) {
                    l.fate = Fate.MISSED;
                }
                return;
            }
            if ((counter[0] & 1 << l.one.needs()) == 0) {
                l.letter = l.one.needs();
                return;
            }
            l.fate = Fate.SERVED;
            l.begin = minute;
            l.end = minute + takes(h, l.one, counter[1], minute - l.comes);
            l.counter = c;
            busyTill[c] = l.end;
        }

        int many(Fate f) {
            return (int) lives.stream().filter(l -> l.fate == f).count();
        }

        int sum(int what) {
            return switch (what) {
                case 0 -> many(Fate.SERVED);
                case 1 -> lives.stream().filter(l -> l.fate == Fate.SERVED).mapToInt(Life::waited).sum();
                case 2 -> lives.stream().mapToInt(Life::waited).filter(w -> w > 0).max().orElse(0);
                case 3 -> lives.stream().mapToInt(l -> l.end).filter(e -> e > 0).max().orElse(0);
                case 4 -> many(Fate.MISSED);
                case 5 -> many(Fate.AWAY);
                case 6 -> many(Fate.WAITS);
                default -> Arrays.stream(idle).sum();
            };
        }

        int harm() {
            return lives.stream().mapToInt(l -> l.fate == Fate.SERVED ? l.waited() : 60).sum();
        }

        int bad(int a) {
            return lives.get(a).fate == Fate.SERVED ? lives.get(a).waited() : 120;
        }

        boolean over(int by) {
            return sum(3) <= by && sum(6) == 0;
        }

        int[] ends() {
            return lives.stream().mapToInt(l -> l.end).toArray();
        }
    }

    private Day day() {
        return new Day(hall);
    }

    private int harmOf(Consumer<Hall> change) {
        return new Day(hall.with(change)).harm();
    }

    /** What is least, of like ones the first: { which, how much }. */
    private static int[] least(int from, int to, int step, ToIntFunction<Integer> much) {
        int[] best = null;
        for (int i = from; i <= to; i += step) {
            int m = much.applyAsInt(i);
            if (best == null || m < best[1]) {
                best = new int[] {i, m};
            }
        }
        return best;
    }

    // ---- the calls

    int counter(int letters, int slowness) {
        if (out(letters, 0, 15) || out(slowness, 0, 9)) {
            return -2;
        }
        if (hall.counters.size() == 4) {
            return -4;
        }
        hall.counters.add(new int[] {letters, slowness, -1});
        return hall.counters.size() - 1;
    }

    private boolean noCounter(int c) {
        return out(c, 0, hall.counters.size() - 1);
    }

    private boolean noAsker(int a) {
        return out(a, 0, hall.askers.size() - 1);
    }

    int change(int c, int what, int v) {
        if (noCounter(c)) {
            return -5;
        }
        if (out(what, 0, 2) || what == 0 && out(v, 0, 15) || what == 1 && out(v, 0, 9) || what == 2 && out(v, -1, 119)) {
            return -7;
        }
        int was = hall.counters.get(c)[what];
        hall.counters.get(c)[what] = v;
        return was;
    }

    int counterTold(int c, int what) {
        if (noCounter(c)) {
            return -5;
        }
        return out(what, 0, 2) ? -7 : hall.counters.get(c)[what];
    }

    int set(int what, int v) {
        if (out(what, 0, 2)) {
            return -1;
        }
        if (what == 0 && out(v, 0, 3) || what == 1 && out(v, 1, 9) || what == 2 && out(v, 0, 120)) {
            return -2;
        }
        int was = hall.set[what];
        hall.set[what] = v;
        return was;
    }

    int count(int what) {
        int[] all = {hall.set[0], hall.set[1], hall.set[2], hall.counters.size(), hall.askers.size(), texts.size(),
            hall.law, tape.length()};
        return out(what, 0, 7) ? -2 : all[what];
    }

    int feed(int n, int a, int b, int c, int d, int e) {
        int[] bytes = {a, b, c, d, e};
        if (out(n, 1, 5) || Arrays.stream(bytes).anyMatch(v -> out(v, 0, 255))) {
            return -2;
        }
        if (tape.length() + n > 160) {
            return -4;
        }
        for (int i = 0; i < n; i++) {
            tape += (char) bytes[i];
        }
        return tape.length();
    }

    int text() {
        if (texts.size() == 6) {
            return -4;
        }
        try {
            texts.add(new Reading(tape).text());
            return texts.size() - 1;
        } catch (Fault f) {
            return -100 - f.place;
        } finally {
            tape = "";
        }
    }

    int force(int t) {
        if (out(t, 0, texts.size() - 1)) {
            return -2;
        }
        int was = hall.law;
        hall.law = t;
        return was;
    }

    int pull(int kind, int what, int minute) {
        if (out(kind, 0, 5) || what < 0 || out(what / 1000, 0, 3) || out(what % 1000 / 10, 1, 99) || out(minute, 0, 119)) {
            return -2;
        }
        if (hall.askers.size() == 16) {
            return -4;
        }
        Ask one = ask(kind);
        one.letter = what / 1000;
        one.base = what % 1000 / 10;
        one.more = what % 10;
        hall.askers.add(one);
        hall.comes.add(minute);
        return hall.askers.size() - 1;
    }

    int move(int a, int minute) {
        if (noAsker(a)) {
            return -5;
        }
        return out(minute, 0, 119) ? -7 : hall.comes.set(a, minute);
    }

    int forget() {
        if (hall.askers.isEmpty()) {
            return -3;
        }
        Ask gone = hall.askers.remove(hall.askers.size() - 1);
        hall.comes.remove(hall.comes.size() - 1);
        if (image != null && image.askers.contains(gone)) {
            image = null;
        }
        return hall.askers.size();
    }

    int told(int a, int what) {
        if (noAsker(a)) {
            return -5;
        }
        if (out(what, 0, 5)) {
            return -7;
        }
        Ask one = hall.askers.get(a);
        return new int[] {one.kind, one.letter, one.base, one.more, hall.comes.get(a), one.needs()}[what];
    }

    int asks(int a, int c, int wait, int said, int what) {
        if (noAsker(a) || noCounter(c)) {
            return -5;
        }
        if (out(wait, 0, 999) || out(said, 0, 999) || out(what, 0, 2)) {
            return -7;
        }
        Ask one = hall.askers.get(a);
        return switch (what) {
            case 0 -> takes(hall, one, hall.counters.get(c)[1], wait);
            case 1 -> there(hall, one, wait) ? 1 : 0;
            default -> minds(hall, one, wait, said);
        };
    }

    int of(int a, int what) {
        if (noAsker(a)) {
            return -5;
        }
        if (out(what, 0, 5)) {
            return -7;
        }
        Life l = day().lives.get(a);
        return new int[] {l.fate.ordinal(), l.begin, l.end, l.counter, l.waited(), l.called}[what];
    }

    int sum(int what) {
        return out(what, 0, 7) ? -2 : day().sum(what);
    }

    int idle(int c) {
        return noCounter(c) ? -5 : day().idle[c];
    }

    int harmed() {
        return day().harm();
    }

    int letter(int c, int what) {
        if (noCounter(c)) {
            return -5;
        }
        if (out(what, 0, 1)) {
            return -7;
        }
        int is = harmed();
        int[] best = least(0, 3, 1, l -> harmOf(h -> h.counters.get(c)[0] |= 1 << l));
        return best[1] < is ? best[what] : new int[] {-1, is}[what];
    }

    int train(int most, int what) {
        if (out(most, 0, 999) || out(what, 0, 1)) {
            return -2;
        }
        if (trained(most, List.of())) {
            return what == 0 ? 0 : -1;
        }
        List<Integer> more = new ArrayList<>();
        for (int c = 0; c < hall.counters.size(); c++) {
            for (int l = 0; l < 4; l++) {
                if ((hall.counters.get(c)[0] & 1 << l) == 0) {
                    more.add(10 * c + l);
                }
            }
        }
        for (int one : more) {
            if (trained(most, List.of(one))) {
                return what == 0 ? 1 : one;
            }
        }
        for (int one : more) {
            for (int other : more) {
                if (one < other && trained(most, List.of(one, other))) {
                    return what == 0 ? 2 : 100 * one + other;
                }
            }
        }
        return -1;
    }

    private boolean trained(int most, List<Integer> more) {
        Day d = new Day(hall.with(h -> more.forEach(m -> h.counters.get(m / 10)[0] |= 1 << m % 10)));
        return d.lives.stream().allMatch(l -> l.fate == Fate.SERVED && l.waited() <= most);
    }

    int rest(int c, int what) {
        if (noCounter(c)) {
            return -5;
        }
        if (out(what, 0, 1)) {
            return -7;
        }
        return least(0, 110, 10, m -> harmOf(h -> h.counters.get(c)[2] = m))[what];
    }

    int stop(int by) {
        if (out(by, 0, 999)) {
            return -2;
        }
        for (int stop = 120; stop >= 0; stop--) {
            int s = stop;
            if (new Day(hall.with(h -> h.set[2] = s)).over(by)) {
                return stop;
            }
        }
        return -1;
    }

    int call(int what) {
        return out(what, 0, 1) ? -2 : least(1, 9, 1, n -> harmOf(h -> h.set[1] = n))[what];
    }

    int pay(int by) {
        if (out(by, 1, 3)) {
            return -2;
        }
        int[] all = new int[4];
        for (int who = 0; who < 4; who++) {
            int w = who;
            for (Life l : new Day(hall.with(h -> h.set[0] = w)).lives) {
                boolean counts = by == 1 ? !l.one.old() : by == 2 || !(l.one instanceof Back);
                all[who] += counts && l.fate == Fate.SERVED ? l.waited() : 0;
            }
        }
        return all[by] - all[0];
    }

    int door(int what) {
        if (out(what, 0, 1)) {
            return -2;
        }
        return harmed() - harmOf(h -> {
            h.backsAsWrong = what == 0;
            h.pullNeeded = what == 1;
        });
    }

    int say(int what) {
        if (out(what, 0, 1)) {
            return -2;
        }
        Day d = day();
        return least(0, 60, 5, said -> d.lives.stream().filter(l -> l.fate == Fate.SERVED)
                .mapToInt(l -> minds(hall, l.one, l.waited(), said)).sum())[what];
    }

    private int[] bestOf(Hall in, int a) {
        return least(0, 100, 20, m -> new Day(in.with(h -> h.comes.set(a, m))).bad(a));
    }

    int best(int a, int what) {
        if (noAsker(a)) {
            return -5;
        }
        return out(what, 0, 1) ? -7 : bestOf(hall, a)[what];
    }

    int uneasy() {
        int bits = 0;
        for (int a = 0; a < hall.askers.size(); a++) {
            bits |= bestOf(hall, a)[1] < day().bad(a) ? 1 << a : 0;
        }
        return bits;
    }

    int rests(int days) {
        if (out(days, 0, 5)) {
            return -2;
        }
        int all = 0;
        for (int d = 0; d < days; d++) {
            int thatDay = 0;
            for (int a = 0; a < hall.askers.size(); a++) {
                int[] best = bestOf(hall, a);
                if (best[1] < day().bad(a)) {
                    hall.comes.set(a, best[0]);
                    thatDay++;
                }
            }
            all += thatDay;
            if (thatDay == 0) {
                return all;
            }
        }
        return all;
    }

    int when(int letter, int base, int what) {
        if (out(letter, 0, 3) || out(base, 1, 99) || out(what, 0, 1)) {
            return -2;
        }
        if (hall.askers.size() == 16) {
            return -3;
        }
        Ask one = ask(0);
        one.letter = letter;
        one.base = base;
        one.more = 9;
        return bestOf(hall.with(h -> {
            h.askers.add(one);
            h.comes.add(0);
        }), hall.askers.size())[what];
    }

    /** The parts of n, of which the row has all from none to n. */
    private static BigInteger above(int n, int hundredth, int seats) {
        BigInteger hundred = BigInteger.valueOf(100);
        BigInteger h = BigInteger.valueOf(hundredth);
        BigInteger not = hundred.subtract(h);
        List<BigInteger> row = List.of(BigInteger.valueOf(1000000000));
        for (int i = 1; i <= n; i++) {
            List<BigInteger> next = new ArrayList<>();
            for (int j = 0; j <= i; j++) {
                BigInteger same = j < i ? row.get(j).multiply(not).divide(hundred) : BigInteger.ZERO;
                BigInteger less = j > 0 ? row.get(j - 1).multiply(h).divide(hundred) : BigInteger.ZERO;
                next.add(same.add(less));
            }
            row = next;
        }
        BigInteger all = BigInteger.ZERO;
        for (int j = seats + 1; j <= n; j++) {
            all = all.add(row.get(j));
        }
        return all;
    }

    long over(int n, int hundredth, int seats) {
        return out(n, 0, 40) || out(hundredth, 0, 100) || out(seats, 0, 40) ? NO
                : above(n, hundredth, seats).longValueExact();
    }

    int give(int hundredth, int seats, int risk) {
        if (out(hundredth, 0, 100) || out(seats, 0, 40) || out(risk, 0, 1000)) {
            return -2;
        }
        for (int n = 40; n > 0; n--) {
            if (above(n, hundredth, seats).compareTo(BigInteger.valueOf(risk * 1000000L)) <= 0) {
                return n;
            }
        }
        return 0;
    }

    private int roll(int s) {
        if (out(s, 0, 3)) {
            return -2;
        }
        if (sheets[s] == null) {
            return -11;
        }
        return sheets[s].length == hall.askers.size() ? 0 : -2;
    }

    int judge(int s) {
        return roll(s) != 0 ? roll(s) : Arrays.mismatch(sheets[s], day().ends());
    }

    int laws(int s) {
        if (roll(s) != 0) {
            return roll(s);
        }
        int bits = 0;
        for (int t = 0; t < texts.size(); t++) {
            int law = t;
            bits |= Arrays.equals(sheets[s], new Day(hall.with(h -> h.law = law)).ends()) ? 1 << t : 0;
        }
        return bits;
    }

    int which(int s) {
        if (roll(s) != 0) {
            return roll(s);
        }
        int bits = 0;
        for (int w = 0; w < 4; w++) {
            int who = w;
            bits |= Arrays.equals(sheets[s], new Day(hall.with(h -> h.set[0] = who)).ends()) ? 1 << w : 0;
        }
        return bits;
    }

    int film(int s) {
        if (out(s, 0, 3)) {
            return -2;
        }
        sheets[s] = day().ends();
        sorts[s] = 2;
        return sheets[s].length;
    }

    private Day drawnDay(int seed) {
        BigInteger lot = BigInteger.valueOf(seed).add(BigInteger.ONE);
        Hall h = hall.copy();
        for (int a = 0; a < h.askers.size(); a++) {
            lot = lot.multiply(BigInteger.valueOf(48271)).mod(BigInteger.valueOf(2147483647));
            int later = lot.mod(BigInteger.valueOf(21)).intValueExact() - 10;
            h.comes.set(a, bound(h.comes.get(a) + later, 0, 119));
        }
        return new Day(h);
    }

    int drawn(int seed, int what) {
        return out(seed, 0, 99999) || out(what, 0, 7) ? -2 : drawnDay(seed).sum(what);
    }

    long odds(int seed, int seeds, int by, int part) {
        if (out(seed, 0, 99999) || out(seeds, 1, 20) || out(by, 0, 999) || out(part, 0, 1)) {
            return NO;
        }
        int good = 0;
        for (int i = 0; i < seeds; i++) {
            good += drawnDay(seed + i).over(by) ? 1 : 0;
        }
        int d = BigInteger.valueOf(good).gcd(BigInteger.valueOf(seeds)).intValueExact();
        return part == 0 ? good / d : seeds / d;
    }

    int image() {
        image = hall.copy();
        return hall.askers.size();
    }

    int back() {
        if (image == null) {
            return -3;
        }
        hall = image.copy();
        return hall.askers.size();
    }

    int sheet(int s, int sort, int n) {
        if (out(s, 0, 3) || out(sort, -1, 2) || sort >= 0 && n > 40) {
            return -2;
        }
        if (sort >= 0 && n < 0) {
            return -14;
        }
        sheets[s] = sort < 0 ? null : new int[n];
        sorts[s] = sort;
        return 1;
    }

    private void put(int s, int i, int v) {
        sheets[s][i] = sorts[s] == 0 ? (byte) v : sorts[s] == 1 ? (short) v : v;
    }

    int cell(int s, int i, int v) {
        if (out(s, 0, 3)) {
            return -2;
        }
        if (sheets[s] == null) {
            return -11;
        }
        if (out(i, 0, sheets[s].length - 1)) {
            return -12;
        }
        put(s, i, v);
        return 1;
    }

    int copy(int s, int i, int other, int j, int n) {
        if (out(s, 0, 3) || out(other, 0, 3)) {
            return -2;
        }
        if (sheets[s] == null || sheets[other] == null) {
            return -11;
        }
        if (sorts[s] != sorts[other]) {
            return -13;
        }
        if (i < 0 || j < 0 || n < 0 || (long) i + n > sheets[s].length || (long) j + n > sheets[other].length) {
            return -12;
        }
        int[] were = sheets[s].clone();
        for (int k = 0; k < n; k++) {
            sheets[other][j + k] = were[i + k];
        }
        return n;
    }

    int pulls(int s, int sort, int at, int n) {
        if (out(s, 0, 3) || out(sort, 0, 2) || out(n, 0, 13)) {
            return -2;
        }
        if (sheets[s] == null) {
            return -11;
        }
        if (sorts[s] != sort) {
            return -13;
        }
        int came = 0;
        for (int k = 0; k < n; k++) {
            long from = at + 3L * k;
            if (from < 0 || from + 3 > sheets[s].length) {
                return -12;
            }
            int[] row = Arrays.copyOfRange(sheets[s], (int) from, (int) from + 3);
            came += pull(row[0], row[1], row[2]) >= 0 ? 1 : 0;
        }
        return came;
    }

    int taken(int i, int kind) {
        if (out(kind, 0, 6)) {
            return -2;
        }
        if (out(i, 0, 19)) {
            return -12;
        }
        if (i < 4 ? noCounter(i) : noAsker(i - 4)) {
            return -11;
        }
        if (i < 4) {
            return kind == 6 ? hall.counters.get(i)[0] : -13;
        }
        return kind < 6 && KINDS.get(kind).isInstance(hall.askers.get(i - 4)) ? i - 4 : -13;
    }
}
