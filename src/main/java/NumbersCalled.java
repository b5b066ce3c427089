/**
 * A hall in which numbers are called: counters, askers, a law, a day minute by minute, and what
 * would be better. What each call answers is told in ../shared/DOC.md, promise by promise.
 */
public final class NumbersCalled {
    public static final int NONE = -1, BAD = -2, STATE = -3, FULL = -4;
    public static final long NO = -4611686018427387904L;

    private static final int NO_SUCH = -5, NOT_SO = -7, FAULT = -100;
    private static final int NOTHING_THERE = -11, OUTSIDE = -12, UNLIKE = -13, BELOW_NONE = -14;

    private static final int LETTERS = 4, ALL_LETTERS = 15, MOST_SLOW = 9;
    private static final int COUNTERS = 4, ASKERS = 16, TEXTS = 6, KINDS = 6;
    private static final int WHOS = 4, MOST_CALLED = 9, LAST_STOP = 120, LAST_COMES = 119;
    private static final int MOST_BASE = 99, MOST_MORE = 9, MOST = 999;
    private static final String FIRST_LAW = "takes base + slow ; waits 30 + more * 5 ; minds wait ;";
    private static final int TAPE = 160, FED = 5, BYTE = 255;
    private static final int SHEETS = 4, CELLS = 40, INTS = 2, NO_SORT = -1, PULLED_AT_ONCE = 13;
    private static final int SEATS = 40, HUNDRED = 100, RISKS = 1000, LAST_SEED = 99999, SEEDS = 20;
    private static final long WHOLE = 1000000000L, RISK = 1000000L;
    private static final long LOT_TIMES = 48271L, LOT_MODULO = 2147483647L, LOT_SPAN = 21L;

    private final Plan now = new Plan();
    private final Plan kept = new Plan();
    private boolean hasImage = false;
    private final Asker[] askers = new Asker[ASKERS];
    private final Text[] texts = new Text[TEXTS];
    private int textCount = 0;
    private final Tape tape = new Tape();
    private final Sheet[] sheets = new Sheet[SHEETS];
    private final Day day = new Day();
    private final Least least = new Least();
    private final long[] parts = new long[SEATS + 1];

    public NumbersCalled() {
        for (int a = 0; a < ASKERS; a++) {
            askers[a] = new Asker();
        }
        for (int t = 0; t < TEXTS; t++) {
            texts[t] = new Text();
        }
        for (int s = 0; s < SHEETS; s++) {
            sheets[s] = new Sheet();
        }
        for (int i = 0; i < FIRST_LAW.length(); i++) {
            tape.append(FIRST_LAW.charAt(i));
        }
        text();
    }

    // ---- the hall, the law

    public int counter(int letters, int slowness) {
        if (!within(letters, 0, ALL_LETTERS) || !within(slowness, 0, MOST_SLOW)) {
            return BAD;
        }
        if (now.counters >= COUNTERS) {
            return FULL;
        }
        int c = now.counters;
        now.does[c] = letters;
        now.slow[c] = slowness;
        now.pause[c] = NONE;
        now.counters++;
        return c;
    }

    public int change(int c, int what, int v) {
        if (!isCounter(c)) {
            return NO_SUCH;
        }
        if (!isOfCounter(what, v)) {
            return NOT_SO;
        }
        int was = ofCounter(c, what);
        switch (what) {
            case 0: now.does[c] = v; break;
            case 1: now.slow[c] = v; break;
            default: now.pause[c] = v; break;
        }
        return was;
    }

    public int counterTold(int c, int what) {
        if (!isCounter(c)) {
            return NO_SUCH;
        }
        return within(what, 0, 2) ? ofCounter(c, what) : NOT_SO;
    }

    public int set(int what, int v) {
        if (!within(what, 0, 2)) {
            return NONE;
        }
        if (!isOfHall(what, v)) {
            return BAD;
        }
        int was = ofHall(what);
        switch (what) {
            case 0: now.who = v; break;
            case 1: now.called = v; break;
            default: now.stop = v; break;
        }
        return was;
    }

    public int count(int what) {
        switch (what) {
            case 0:
            case 1:
            case 2: return ofHall(what);
            case 3: return now.counters;
            case 4: return now.askers;
            case 5: return textCount;
            case 6: return now.law;
            case 7: return tape.size;
            default: return BAD;
        }
    }

    public int feed(int n, int a, int b, int c, int d, int e) {
        if (!within(n, 1, FED) || !isByte(a) || !isByte(b) || !isByte(c) || !isByte(d) || !isByte(e)) {
            return BAD;
        }
        if (n > TAPE - tape.size) {
            return FULL;
        }
        for (int i = 0; i < n; i++) {
            switch (i) {
                case 0: tape.append(a); break;
                case 1: tape.append(b); break;
                case 2: tape.append(c); break;
                case 3: tape.append(d); break;
                default: tape.append(e); break;
            }
        }
        return tape.size;
    }

    public int text() {
        if (textCount >= TEXTS) {
            return FULL;
        }
        int fault = tape.read();
        tape.size = 0;
        if (fault != NONE) {
            return FAULT - fault;
        }
        texts[textCount].become(tape);
        textCount++;
        return textCount - 1;
    }

    public int force(int t) {
        if (!within(t, 0, textCount - 1)) {
            return BAD;
        }
        int was = now.law;
        now.law = t;
        return was;
    }

    // ---- askers

    public int pull(int kind, int what, int minute) {
        if (!within(kind, 0, KINDS - 1) || !within(minute, 0, LAST_COMES) || !isPull(what)) {
            return BAD;
        }
        if (now.askers >= ASKERS) {
            return FULL;
        }
        int a = now.askers;
        askers[a].become(kind, what / 1000, what / 10 % 100, what % 10);
        now.comes[a] = minute;
        now.askers++;
        return a;
    }

    public int move(int a, int minute) {
        if (!isAsker(a)) {
            return NO_SUCH;
        }
        if (!within(minute, 0, LAST_COMES)) {
            return NOT_SO;
        }
        int was = now.comes[a];
        now.comes[a] = minute;
        return was;
    }

    public int forget() {
        if (now.askers <= 0) {
            return STATE;
        }
        now.askers--;
        if (kept.askers > now.askers) {
            hasImage = false;
        }
        return now.askers;
    }

    public int told(int a, int what) {
        if (!isAsker(a)) {
            return NO_SUCH;
        }
        switch (what) {
            case 0: return askers[a].kind;
            case 1: return askers[a].letter;
            case 2: return askers[a].base;
            case 3: return askers[a].more;
            case 4: return now.comes[a];
            case 5: return askers[a].needs();
            default: return NOT_SO;
        }
    }

    public int asks(int a, int c, int wait, int said, int what) {
        if (!isAsker(a) || !isCounter(c)) {
            return NO_SUCH;
        }
        if (!within(wait, 0, MOST) || !within(said, 0, MOST)) {
            return NOT_SO;
        }
        Text law = texts[now.law];
        switch (what) {
            case 0: return askers[a].takes(law.worth(Text.TAKES, askers[a], wait, now.slow[c], 0), false);
            case 1: return askers[a].isThere(wait, law.worth(Text.WAITS, askers[a], wait, 0, 0)) ? 1 : 0;
            case 2: return minded(askers[a], wait, said);
            default: return NOT_SO;
        }
    }

    // ---- a day

    public int of(int a, int what) {
        if (!isAsker(a)) {
            return NO_SUCH;
        }
        if (!within(what, 0, 5)) {
            return NOT_SO;
        }
        liveAsItIs();
        switch (what) {
            case 0: return day.fate[a];
            case 1: return day.began[a];
            case 2: return day.ended[a];
            case 3: return day.servedAt[a];
            case 4: return day.waited(a);
            default: return day.times[a];
        }
    }

    public int sum(int what) {
        if (!within(what, 0, 7)) {
            return BAD;
        }
        liveAsItIs();
        return day.total(what);
    }

    public int idle(int c) {
        if (!isCounter(c)) {
            return NO_SUCH;
        }
        liveAsItIs();
        return day.idled[c];
    }

    public int harmed() {
        liveAsItIs();
        return day.harm();
    }

    // ---- what would be better

    public int letter(int c, int what) {
        if (!isCounter(c)) {
            return NO_SUCH;
        }
        if (!within(what, 0, 1)) {
            return NOT_SO;
        }
        least.start();
        liveAsItIs();
        least.offer(NONE, day.harm());
        for (int letter = 0; letter < LETTERS; letter++) {
            day.plan.does[c] = now.does[c] | 1 << letter;
            live();
            least.offer(letter, day.harm());
        }
        return least.tell(what);
    }

    public int train(int most, int what) {
        if (!within(most, 0, MOST) || !within(what, 0, 1)) {
            return BAD;
        }
        if (isTrained(NONE, NONE, most)) {
            return what == 0 ? 0 : NONE;
        }
        int skills = now.counters * LETTERS;
        for (int one = 0; one < skills; one++) {
            if (isTrained(one, NONE, most)) {
                return what == 0 ? 1 : skillName(one);
            }
        }
        for (int one = 0; one < skills; one++) {
            for (int other = one + 1; other < skills; other++) {
                if (isTrained(one, other, most)) {
                    return what == 0 ? 2 : skillName(one) * 100 + skillName(other);
                }
            }
        }
        return NONE;
    }

    public int rest(int c, int what) {
        if (!isCounter(c)) {
            return NO_SUCH;
        }
        if (!within(what, 0, 1)) {
            return NOT_SO;
        }
        least.start();
        planAsItIs();
        for (int minute = 0; minute <= 110; minute += 10) {
            day.plan.pause[c] = minute;
            live();
            least.offer(minute, day.harm());
        }
        return least.tell(what);
    }

    public int stop(int by) {
        if (!within(by, 0, MOST)) {
            return BAD;
        }
        planAsItIs();
        for (int stop = LAST_STOP; stop >= 0; stop--) {
            // where nobody comes, the day is the one by the STOP a minute later: not good
            if (stop < LAST_STOP && !someoneComes(stop)) {
                continue;
            }
            day.plan.stop = stop;
            live();
            if (day.isOver(by)) {
                return stop;
            }
        }
        return NONE;
    }

    public int call(int what) {
        if (!within(what, 0, 1)) {
            return BAD;
        }
        least.start();
        planAsItIs();
        for (int often = 1; often <= MOST_CALLED; often++) {
            day.plan.called = often;
            live();
            least.offer(often, day.harm());
        }
        return least.tell(what);
    }

    public int pay(int by) {
        if (!within(by, 1, WHOS - 1)) {
            return BAD;
        }
        planAsItIs();
        day.plan.who = by;
        live();
        int then = waitsOfOthers(by);
        day.plan.who = 0;
        live();
        return then - waitsOfOthers(by);
    }

    public int door(int what) {
        if (!within(what, 0, 1)) {
            return BAD;
        }
        liveAsItIs();
        int is = day.harm();
        day.plan.backsLikeWrong = what == 0;
        day.plan.pullsNeeded = what == 1;
        live();
        return is - day.harm();
    }

    // ---- what to say, when to come

    public int say(int what) {
        if (!within(what, 0, 1)) {
            return BAD;
        }
        least.start();
        liveAsItIs();
        for (int said = 0; said <= 60; said += 5) {
            int together = 0;
            for (int a = 0; a < now.askers; a++) {
                if (day.fate[a] == Day.SERVED) {
                    together += minded(askers[a], day.waited(a), said);
                }
            }
            least.offer(said, together);
        }
        return least.tell(what);
    }

    public int best(int a, int what) {
        if (!isAsker(a)) {
            return NO_SUCH;
        }
        if (!within(what, 0, 1)) {
            return NOT_SO;
        }
        planAsItIs();
        seekBest(a);
        return least.tell(what);
    }

    public int uneasy() {
        int bits = 0;
        for (int a = 0; a < now.askers; a++) {
            if (wouldMove(a)) {
                bits |= 1 << a;
            }
        }
        return bits;
    }

    public int rests(int days) {
        if (!within(days, 0, 5)) {
            return BAD;
        }
        int moved = 0;
        for (int d = 0; d < days; d++) {
            int before = moved;
            for (int a = 0; a < now.askers; a++) {
                if (wouldMove(a)) {
                    now.comes[a] = least.at;
                    moved++;
                }
            }
            if (moved == before) {
                break;
            }
        }
        return moved;
    }

    public int when(int letter, int base, int what) {
        if (!within(letter, 0, LETTERS - 1) || !within(base, 1, MOST_BASE) || !within(what, 0, 1)) {
            return BAD;
        }
        if (now.askers >= ASKERS) {
            return STATE;
        }
        int guest = now.askers;
        askers[guest].become(0, letter, base, MOST_MORE);
        planAsItIs();
        day.plan.askers++;
        seekBest(guest);
        return least.tell(what);
    }

    // ---- numbers given over

    public long over(int n, int hundredth, int seats) {
        if (!within(n, 0, SEATS) || !within(hundredth, 0, HUNDRED) || !within(seats, 0, SEATS)) {
            return NO;
        }
        startParts();
        for (int given = 1; given <= n; given++) {
            giveOneMore(given, hundredth);
        }
        return partsAbove(seats);
    }

    public int give(int hundredth, int seats, int risk) {
        if (!within(hundredth, 0, HUNDRED) || !within(seats, 0, SEATS) || !within(risk, 0, RISKS)) {
            return BAD;
        }
        startParts();
        int greatest = 0;
        for (int given = 1; given <= SEATS; given++) {
            giveOneMore(given, hundredth);
            if (partsAbove(seats) <= risk * RISK) {
                greatest = given;
            }
        }
        return greatest;
    }

    // ---- rolls

    public int judge(int s) {
        int refusal = refusalOfRoll(s);
        if (refusal != 0) {
            return refusal;
        }
        liveAsItIs();
        return firstOtherwise(sheets[s]);
    }

    public int laws(int s) {
        int refusal = refusalOfRoll(s);
        if (refusal != 0) {
            return refusal;
        }
        int bits = 0;
        planAsItIs();
        for (int t = 0; t < textCount; t++) {
            day.plan.law = t;
            live();
            if (firstOtherwise(sheets[s]) == NONE) {
                bits |= 1 << t;
            }
        }
        return bits;
    }

    public int which(int s) {
        int refusal = refusalOfRoll(s);
        if (refusal != 0) {
            return refusal;
        }
        int bits = 0;
        planAsItIs();
        for (int who = 0; who < WHOS; who++) {
            day.plan.who = who;
            live();
            if (firstOtherwise(sheets[s]) == NONE) {
                bits |= 1 << who;
            }
        }
        return bits;
    }

    public int film(int s) {
        if (!isSheet(s)) {
            return BAD;
        }
        liveAsItIs();
        sheets[s].become(INTS, now.askers);
        for (int a = 0; a < now.askers; a++) {
            sheets[s].write(a, day.ended[a]);
        }
        return now.askers;
    }

    // ---- days by lot

    public int drawn(int seed, int what) {
        if (!within(seed, 0, LAST_SEED) || !within(what, 0, 7)) {
            return BAD;
        }
        planDrawn(seed);
        live();
        return day.total(what);
    }

    public long odds(int seed, int seeds, int by, int part) {
        if (!within(seed, 0, LAST_SEED) || !within(seeds, 1, SEEDS)
                || !within(by, 0, MOST) || !within(part, 0, 1)) {
            return NO;
        }
        int good = 0;
        for (int i = 0; i < seeds; i++) {
            planDrawn(seed + i);
            live();
            if (day.isOver(by)) {
                good++;
            }
        }
        int divisor = commonDivisor(good, seeds);
        return part == 0 ? good / divisor : seeds / divisor;
    }

    public int image() {
        kept.become(now);
        hasImage = true;
        return now.askers;
    }

    public int back() {
        if (!hasImage) {
            return STATE;
        }
        now.become(kept);
        return now.askers;
    }

    // ---- the host

    public int sheet(int s, int sort, int n) {
        if (!isSheet(s) || !within(sort, NO_SORT, INTS)) {
            return BAD;
        }
        if (sort == NO_SORT) {
            sheets[s].become(NO_SORT, 0);
            return 1;
        }
        if (n > CELLS) {
            return BAD;
        }
        if (n < 0) {
            return BELOW_NONE;
        }
        sheets[s].become(sort, n);
        return 1;
    }

    public int cell(int s, int i, int v) {
        if (!isSheet(s)) {
            return BAD;
        }
        if (sheets[s].isMissing()) {
            return NOTHING_THERE;
        }
        if (!within(i, 0, sheets[s].size - 1)) {
            return OUTSIDE;
        }
        sheets[s].write(i, v);
        return 1;
    }

    public int copy(int s, int i, int other, int j, int n) {
        if (!isSheet(s) || !isSheet(other)) {
            return BAD;
        }
        Sheet from = sheets[s];
        Sheet to = sheets[other];
        if (from.isMissing() || to.isMissing()) {
            return NOTHING_THERE;
        }
        if (from.sort != to.sort) {
            return UNLIKE;
        }
        if (n < 0 || !within(i, 0, from.size - n) || !within(j, 0, to.size - n)) {
            return OUTSIDE;
        }
        System.arraycopy(from.cells, i, to.cells, j, n);
        return n;
    }

    public int pulls(int s, int sort, int at, int n) {
        if (!isSheet(s) || !within(sort, 0, INTS) || !within(n, 0, PULLED_AT_ONCE)) {
            return BAD;
        }
        Sheet sheet = sheets[s];
        if (sheet.isMissing()) {
            return NOTHING_THERE;
        }
        if (sheet.sort != sort) {
            return UNLIKE;
        }
        int came = 0;
        int place = at;
        for (int k = 0; k < n; k++) {
            if (!within(place, 0, sheet.size - 3)) {
                return OUTSIDE;
            }
            if (pull(sheet.cells[place], sheet.cells[place + 1], sheet.cells[place + 2]) >= 0) {
                came++;
            }
            place += 3;
        }
        return came;
    }

    public int taken(int i, int kind) {
        if (!within(kind, 0, KINDS)) {
            return BAD;
        }
        if (!within(i, 0, COUNTERS + ASKERS - 1)) {
            return OUTSIDE;
        }
        boolean asCounter = kind == KINDS;
        if (i < COUNTERS) {
            if (!isCounter(i)) {
                return NOTHING_THERE;
            }
            return asCounter ? now.does[i] : UNLIKE;
        }
        int a = i - COUNTERS;
        if (!isAsker(a)) {
            return NOTHING_THERE;
        }
        return !asCounter && askers[a].isA(kind) ? a : UNLIKE;
    }

    // ---- what a call may name

    private static boolean within(int v, int least, int most) {
        return v >= least && v <= most;
    }

    private static int bounded(int v, int least, int most) {
        if (v < least) {
            return least;
        }
        return v > most ? most : v;
    }

    private static boolean isByte(int v) {
        return within(v, 0, BYTE);
    }

    private static boolean isPull(int what) {
        return within(what, 0, LETTERS * 1000 - 1) && what / 10 % 100 > 0;
    }

    private static boolean isSheet(int s) {
        return within(s, 0, SHEETS - 1);
    }

    private boolean isCounter(int c) {
        return within(c, 0, now.counters - 1);
    }

    private boolean isAsker(int a) {
        return within(a, 0, now.askers - 1);
    }

    private static boolean isOfCounter(int what, int v) {
        switch (what) {
            case 0: return within(v, 0, ALL_LETTERS);
            case 1: return within(v, 0, MOST_SLOW);
            case 2: return within(v, NONE, LAST_COMES);
            default: return false;
        }
    }

    private int ofCounter(int c, int what) {
        switch (what) {
            case 0: return now.does[c];
            case 1: return now.slow[c];
            default: return now.pause[c];
        }
    }

    private static boolean isOfHall(int what, int v) {
        switch (what) {
            case 0: return within(v, 0, WHOS - 1);
            case 1: return within(v, 1, MOST_CALLED);
            default: return within(v, 0, LAST_STOP);
        }
    }

    private int ofHall(int what) {
        switch (what) {
            case 0: return now.who;
            case 1: return now.called;
            default: return now.stop;
        }
    }

    /** 0: the SHEET can be held against the ASKERS. */
    private int refusalOfRoll(int s) {
        if (!isSheet(s)) {
            return BAD;
        }
        if (sheets[s].isMissing()) {
            return NOTHING_THERE;
        }
        return sheets[s].size == now.askers ? 0 : BAD;
    }

    // ---- days that are tried

    /** Days are tried on a plan of their own, so that what is only asked changes nothing. */
    private void planAsItIs() {
        day.plan.become(now);
    }

    private void live() {
        day.run(askers, texts[day.plan.law]);
    }

    private void liveAsItIs() {
        planAsItIs();
        live();
    }

    private void planDrawn(int seed) {
        planAsItIs();
        long lot = seed + 1L;
        for (int a = 0; a < now.askers; a++) {
            lot = lot * LOT_TIMES % LOT_MODULO;
            int later = (int) (lot % LOT_SPAN) - 10;
            day.plan.comes[a] = bounded(now.comes[a] + later, 0, LAST_COMES);
        }
    }

    /** A skill: LETTERS times the COUNTER, and the LETTER; NONE is no skill more. */
    private boolean isTrained(int one, int other, int most) {
        planAsItIs();
        day.plan.teach(one);
        day.plan.teach(other);
        live();
        return day.many(Day.SERVED) == now.askers && day.longest() <= most;
    }

    private static int skillName(int skill) {
        return skill / LETTERS * 10 + skill % LETTERS;
    }

    private boolean someoneComes(int minute) {
        for (int a = 0; a < now.askers; a++) {
            if (now.comes[a] == minute) {
                return true;
            }
        }
        return false;
    }

    /** Those who by this WHO might have to pay for the ones who are ahead. */
    private int waitsOfOthers(int who) {
        int all = 0;
        for (int a = 0; a < now.askers; a++) {
            boolean ahead = who == 1 && askers[a].isOld() || who == 3 && askers[a].isBack();
            if (!ahead && day.fate[a] == Day.SERVED) {
                all += day.waited(a);
            }
        }
        return all;
    }

    private int minded(Asker one, int wait, int said) {
        return bounded(texts[now.law].worth(Text.MINDS, one, wait, 0, said), 0, MOST);
    }

    private void seekBest(int a) {
        least.start();
        for (int minute = 0; minute <= 100; minute += 20) {
            day.plan.comes[a] = minute;
            live();
            least.offer(minute, day.badFor(a));
        }
    }

    /** Leaves in least what is BEST for one. */
    private boolean wouldMove(int a) {
        liveAsItIs();
        int is = day.badFor(a);
        seekBest(a);
        return least.much < is;
    }

    /** Of a SHEET that refusalOfRoll() lets through. */
    private int firstOtherwise(Sheet sheet) {
        for (int a = 0; a < now.askers; a++) {
            if (sheet.cells[a] != day.ended[a]) {
                return a;
            }
        }
        return NONE;
    }

    // ---- PARTS and the like

    private void startParts() {
        for (int j = 0; j <= SEATS; j++) {
            parts[j] = 0L;
        }
        parts[0] = WHOLE;
    }

    private void giveOneMore(int given, int hundredth) {
        long not = HUNDRED - hundredth;
        for (int j = given; j >= 1; j--) {
            parts[j] = parts[j] * not / HUNDRED + parts[j - 1] * hundredth / HUNDRED;
        }
        parts[0] = parts[0] * not / HUNDRED;
    }

    private long partsAbove(int seats) {
        long together = 0L;
        for (int j = seats + 1; j <= SEATS; j++) {
            together += parts[j];
        }
        return together;
    }

    /** The greatest that divides both; b is above 0, so 1 does at least. */
    private static int commonDivisor(int a, int b) {
        for (int d = b; d > 1; d--) {
            if (a % d == 0 && b % d == 0) {
                return d;
            }
        }
        return 1;
    }

    /** Of what is offered the least, of like ones the first. */
    private static final class Least {
        private static final int ENDLESS = 2147483647;

        int at = NONE;
        int much = ENDLESS;

        void start() {
            at = NONE;
            much = ENDLESS;
        }

        void offer(int where, int howMuch) {
            if (howMuch < much) {
                at = where;
                much = howMuch;
            }
        }

        int tell(int what) {
            return what == 0 ? at : much;
        }
    }

    /** One who asks, but for when one COMES: that an IMAGE keeps, so it stands in the Plan. */
    private static final class Asker {
        private static final int OFF = 1, WRONG = 2, BACK = 3, OLD = 4, SOLD = 5;
        private static final int[] ABOVE = {-1, 0, 0, WRONG, 0, OFF};
        private static final int SURE_FROM = 30, LONGEST = 60;

        int kind = 0;
        int letter = 0;
        int base = 1;
        int more = 0;

        void become(int newKind, int newLetter, int newBase, int newMore) {
            kind = newKind;
            letter = newLetter;
            base = newBase;
            more = newMore;
        }

        boolean isA(int wanted) {
            int k = kind;
            for (int i = 0; i < KINDS && k >= 0 && k < KINDS; i++) {
                if (k == wanted) {
                    return true;
                }
                k = ABOVE[k];
            }
            return false;
        }

        boolean isOld() {
            return kind == OLD;
        }

        boolean isBack() {
            return kind == BACK;
        }

        int needs() {
            return kind == WRONG ? (letter + 1) % LETTERS : letter;
        }

        boolean isThere(int wait, int waits) {
            if (kind == SOLD && wait >= SURE_FROM) {
                return true;
            }
            if (wait > bounded(waits, 0, MOST)) {
                return false;
            }
            boolean comesAndGoes = kind == OFF || kind == SOLD;
            return !comesAndGoes || wait / Math.max(2, more + 2) % 2 == 0;
        }

        int takes(int takes, boolean backsLikeWrong) {
            int one = bounded(takes, 1, LONGEST);
            return kind == BACK && !backsLikeWrong ? bounded(2 * one, 1, LONGEST) : one;
        }
    }

    /** All that an IMAGE keeps: of the hall as it is, as it was, or as it might be. */
    private static final class Plan {
        private static final int PAUSE = 10;

        int counters = 0;
        final int[] does = new int[COUNTERS];
        final int[] slow = new int[COUNTERS];
        final int[] pause = new int[COUNTERS];
        int askers = 0;
        final int[] comes = new int[ASKERS];
        int who = 0;
        int called = 3;
        int stop = LAST_STOP;
        int law = 0;
        // what door() tries; never so in the hall as it is
        boolean backsLikeWrong = false;
        boolean pullsNeeded = false;

        void become(Plan other) {
            counters = other.counters;
            for (int c = 0; c < COUNTERS; c++) {
                does[c] = other.does[c];
                slow[c] = other.slow[c];
                pause[c] = other.pause[c];
            }
            askers = other.askers;
            for (int a = 0; a < ASKERS; a++) {
                comes[a] = other.comes[a];
            }
            who = other.who;
            called = other.called;
            stop = other.stop;
            law = other.law;
            backsLikeWrong = other.backsLikeWrong;
            pullsNeeded = other.pullsNeeded;
        }

        void teach(int skill) {
            if (within(skill, 0, COUNTERS * LETTERS - 1)) {
                does[skill / LETTERS] |= 1 << skill % LETTERS;
            }
        }

        boolean isPausing(int c, int minute) {
            return pause[c] >= 0 && within(minute, pause[c], pause[c] + PAUSE - 1);
        }
    }

    /** A DAY by a plan of its own, and what came of it. */
    private static final class Day {
        static final int NOT_COME = 0, WAITS = 1, SERVED = 2, MISSED = 3, TURNED_AWAY = 4;
        private static final int MINUTES = 240, NOT_SERVED_HARM = 60, NOT_SERVED_BAD = 120;

        final Plan plan = new Plan();
        final int[] fate = new int[ASKERS];
        final int[] began = new int[ASKERS];
        final int[] ended = new int[ASKERS];
        final int[] servedAt = new int[ASKERS];
        final int[] times = new int[ASKERS];
        final int[] idled = new int[COUNTERS];
        private final int[] waitsWith = new int[ASKERS];
        private final int[] busyTill = new int[COUNTERS];
        private final int[] line = new int[ASKERS];
        private int toCome = 0;
        private int wanted = 0;

        void run(Asker[] askers, Text law) {
            begin(askers);
            for (int minute = 0; minute < MINUTES; minute++) {
                if (toCome > 0) {
                    letIn(minute);
                }
                for (int c = 0; c < plan.counters; c++) {
                    if (minute < busyTill[c] || plan.isPausing(c, minute)) {
                        continue;
                    }
                    int a = firstFor(plan.does[c]);
                    if (a == NONE) {
                        idled[c]++;
                    } else {
                        beckon(askers[a], law, a, c, minute);
                    }
                }
            }
        }

        private void begin(Asker[] askers) {
            for (int c = 0; c < plan.counters; c++) {
                busyTill[c] = 0;
                idled[c] = 0;
            }
            for (int a = 0; a < plan.askers; a++) {
                fate[a] = NOT_COME;
                began[a] = NONE;
                ended[a] = NONE;
                servedAt[a] = NONE;
                times[a] = 0;
                waitsWith[a] = plan.pullsNeeded ? askers[a].needs() : askers[a].letter;
                lineUp(a, (rank(askers[a]) * LAST_STOP + plan.comes[a]) * ASKERS + a);
            }
            toCome = plan.askers;
            wanted = 0;
        }

        private int rank(Asker one) {
            switch (plan.who) {
                case 1: return one.isOld() ? 0 : 1;
                case 2: return one.base;
                case 3: return one.isBack() ? 0 : 1;
                default: return 0;
            }
        }

        /** Who is FIRST never changes in a day, so all are lined up once; a place ends in the number. */
        private void lineUp(int behind, int place) {
            int i = behind;
            for (; i > 0 && line[i - 1] > place; i--) {
                line[i] = line[i - 1];
            }
            line[i] = place;
        }

        private void letIn(int minute) {
            for (int a = 0; a < plan.askers; a++) {
                if (plan.comes[a] == minute) {
                    fate[a] = minute < plan.stop ? WAITS : TURNED_AWAY;
                    toCome--;
                }
            }
            lookAround();
        }

        /** Most of the time nobody waits for a COUNTER: the bits tell it without going along the line. */
        private void lookAround() {
            wanted = 0;
            for (int a = 0; a < plan.askers; a++) {
                if (fate[a] == WAITS) {
                    wanted |= 1 << waitsWith[a];
                }
            }
        }

        private int firstFor(int letters) {
            if ((letters & wanted) == 0) {
                return NONE;
            }
            for (int i = 0; i < plan.askers; i++) {
                int a = line[i] % ASKERS;
                if (fate[a] == WAITS && (letters >> waitsWith[a] & 1) == 1) {
                    return a;
                }
            }
            return NONE;
        }

        private void beckon(Asker one, Text law, int a, int c, int minute) {
            int wait = minute - plan.comes[a];
            times[a]++;
            if (!one.isThere(wait, law.worth(Text.WAITS, one, wait, 0, 0))) {
                if (times[a] >= plan.called) {
                    fate[a] = MISSED;
                }
            } else if ((plan.does[c] >> one.needs() & 1) == 0) {
                waitsWith[a] = one.needs();
            } else {
                int takes = law.worth(Text.TAKES, one, wait, plan.slow[c], 0);
                fate[a] = SERVED;
                began[a] = minute;
                ended[a] = minute + one.takes(takes, plan.backsLikeWrong);
                servedAt[a] = c;
                busyTill[c] = ended[a];
            }
            lookAround();
        }

        int waited(int a) {
            return fate[a] == SERVED ? began[a] - plan.comes[a] : NONE;
        }

        int badFor(int a) {
            return fate[a] == SERVED ? waited(a) : NOT_SERVED_BAD;
        }

        int many(int ofFate) {
            int n = 0;
            for (int a = 0; a < plan.askers; a++) {
                if (fate[a] == ofFate) {
                    n++;
                }
            }
            return n;
        }

        int allWaits() {
            int all = 0;
            for (int a = 0; a < plan.askers; a++) {
                if (fate[a] == SERVED) {
                    all += waited(a);
                }
            }
            return all;
        }

        int longest() {
            int most = 0;
            for (int a = 0; a < plan.askers; a++) {
                most = Math.max(most, waited(a));
            }
            return most;
        }

        int latestEnd() {
            int latest = 0;
            for (int a = 0; a < plan.askers; a++) {
                latest = Math.max(latest, ended[a]);
            }
            return latest;
        }

        int allIdled() {
            int all = 0;
            for (int c = 0; c < plan.counters; c++) {
                all += idled[c];
            }
            return all;
        }

        int harm() {
            return allWaits() + NOT_SERVED_HARM * (plan.askers - many(SERVED));
        }

        boolean isOver(int by) {
            return latestEnd() <= by && many(WAITS) == 0;
        }

        int total(int what) {
            switch (what) {
                case 0: return many(SERVED);
                case 1: return allWaits();
                case 2: return longest();
                case 3: return latestEnd();
                case 4: return many(MISSED);
                case 5: return many(TURNED_AWAY);
                case 6: return many(WAITS);
                default: return allIdled();
            }
        }
    }

    /** What a TEXT says, as a row in which what is done to numbers stands behind these. */
    private static final class Text {
        static final int TAKES = 0, WAITS = 1, MINDS = 2;
        // six levels (five open ones), of each at most one left of or, and, < or =, + or -, *
        private static final int DEEPEST = 32;
        private static final int NAMES = 6;

        private final int[] row = new int[TAPE];
        private final int[] ends = new int[MINDS + 1];
        private final int[] pile = new int[DEEPEST];
        private final int[] named = new int[NAMES];

        void become(Tape tape) {
            for (int i = 0; i < TAPE; i++) {
                row[i] = tape.row[i];
            }
            for (int part = TAKES; part <= MINDS; part++) {
                ends[part] = tape.ends[part];
            }
        }

        int worth(int part, Asker one, int wait, int slow, int said) {
            named[0] = one.base;
            named[1] = one.more;
            named[2] = slow;
            named[3] = wait;
            named[4] = said;
            named[5] = one.letter;
            int top = 0;
            for (int i = part == TAKES ? 0 : ends[part - 1]; i < ends[part]; i++) {
                int token = ~row[i];
                boolean isName = token >= Tape.BASE && token <= Tape.LETTER;
                if (token < 0 || isName) {
                    if (top < DEEPEST) {
                        pile[top] = isName ? named[token - Tape.BASE] : row[i];
                        top++;
                    }
                } else if (token == Tape.NOT || token == Tape.MINUS) {
                    if (top > 0) {
                        int v = pile[top - 1];
                        pile[top - 1] = token == Tape.MINUS ? -v : v == 0 ? 1 : 0;
                    }
                } else if (top > 1) {
                    top--;
                    pile[top - 1] = joined(token, pile[top - 1], pile[top]);
                }
            }
            return top > 0 ? pile[0] : 0;
        }

        private static int joined(int token, int left, int right) {
            switch (token) {
                case Tape.OR: return left != 0 || right != 0 ? 1 : 0;
                case Tape.AND: return left != 0 && right != 0 ? 1 : 0;
                case '<': return left < right ? 1 : 0;
                case '=': return left == right ? 1 : 0;
                case '+': return left + right;
                case '-': return left - right;
                default: return left * right;
            }
        }
    }

    /** THE TAPE, and how a TEXT is read from it: token by token, till one can't stand there. */
    private static final class Tape {
        // KEYS and NAMES, six places each; a WORD's TOKEN is its place among them.
        private static final String WORDS =
                "takes waits minds or    and   not   base  more  slow  wait  said  letter";
        private static final int WORD_SIZE = 6;
        private static final int WORD_COUNT = 12;
        private static final int DIGITS = 4;
        static final int OR = 3, AND = 4, NOT = 5, BASE = 6, LETTER = 11;
        // a - ahead of a ONE; no sign has this number
        static final int MINUS = 12;
        private static final int NUMBER = 13, END = 14, UNFIT = 15;
        private static final int MOST_OPEN = 5;

        private final int[] bytes = new int[TAPE];
        int size = 0;
        // what a TEXT says: numbers as they are, a TOKEN as ~ it, so that it is below 0
        final int[] row = new int[TAPE];
        final int[] ends = new int[Text.MINDS + 1];
        private int told = 0;
        private int place = 0;
        private int start = 0;
        private int token = END;
        private int number = 0;

        void append(int b) {
            if (size < TAPE) {
                bytes[size] = b;
                size++;
            }
        }

        /** The place of the FAULT; NONE: there is a TEXT in the row. */
        int read() {
            told = 0;
            place = 0;
            step();
            for (int part = Text.TAKES; part <= Text.MINDS; part++) {
                if (!skip(part) || !readEither(0) || !skip(';')) {
                    return start;
                }
                ends[part] = told;
            }
            return token == END ? NONE : start;
        }

        private boolean skip(int wanted) {
            if (token != wanted) {
                return false;
            }
            step();
            return true;
        }

        private void tell(int it) {
            if (told < TAPE) {
                row[told] = it;
                told++;
            }
        }

        // in all of these open is how many of ( , not, - are: it keeps the depth low

        private boolean readEither(int open) {
            boolean fits = readBoth(open);
            for (int i = 0; i < TAPE && fits && token == OR; i++) {
                step();
                fits = readBoth(open);
                tell(~OR);
            }
            return fits;
        }

        private boolean readBoth(int open) {
            boolean fits = readNot(open);
            for (int i = 0; i < TAPE && fits && token == AND; i++) {
                step();
                fits = readNot(open);
                tell(~AND);
            }
            return fits;
        }

        private boolean readNot(int open) {
            if (token == NOT) {
                return readBehind(NOT, open);
            }
            boolean fits = readSum(open);
            int sign = token;
            if (fits && (sign == '<' || sign == '=')) {
                step();
                fits = readSum(open);
                tell(~sign);
            }
            return fits;
        }

        private boolean readSum(int open) {
            boolean fits = readTerm(open);
            for (int i = 0; i < TAPE && fits && (token == '+' || token == '-'); i++) {
                int sign = token;
                step();
                fits = readTerm(open);
                tell(~sign);
            }
            return fits;
        }

        private boolean readTerm(int open) {
            boolean fits = readOne(open);
            for (int i = 0; i < TAPE && fits && token == '*'; i++) {
                step();
                fits = readOne(open);
                tell(~'*');
            }
            return fits;
        }

        private boolean readOne(int open) {
            if (token == '-') {
                return readBehind(MINUS, open);
            }
            if (token == '(') {
                return readBehind('(', open);
            }
            boolean isName = within(token, BASE, LETTER);
            if (token != NUMBER && !isName) {
                return false;
            }
            tell(isName ? ~token : number);
            step();
            return true;
        }

        /** What stands behind a not, a - or a ( : one more is open there. */
        private boolean readBehind(int opener, int open) {
            if (open >= MOST_OPEN) {
                return false;
            }
            step();
            if (opener == '(') {
                return readEither(open + 1) && skip(')');
            }
            boolean fits = opener == NOT ? readNot(open + 1) : readOne(open + 1);
            tell(~opener);
            return fits;
        }

        /** The next TOKEN: it starts at start and ends ahead of place. */
        private void step() {
            while (place < size && (bytes[place] == ' ' || bytes[place] == '\n')) {
                place++;
            }
            start = place;
            if (place >= size) {
                token = END;
                return;
            }
            int b = bytes[place];
            if (within(b, 'a', 'z')) {
                passAll('a', 'z');
                token = wordToken();
            } else if (within(b, '0', '9')) {
                passAll('0', '9');
                token = numberToken();
            } else {
                place++;
                token = isSign(b) ? b : UNFIT;
            }
        }

        private void passAll(int first, int last) {
            while (place < size && within(bytes[place], first, last)) {
                place++;
            }
        }

        private static boolean isSign(int b) {
            return b == '(' || b == ')' || b == ';' || b == '+' || b == '-' || b == '*' || b == '<' || b == '=';
        }

        private int numberToken() {
            if (place - start > DIGITS) {
                return UNFIT;
            }
            number = 0;
            for (int i = start; i < place; i++) {
                number = number * 10 + bytes[i] - '0';
            }
            return NUMBER;
        }

        private int wordToken() {
            if (place - start > WORD_SIZE) {
                return UNFIT;
            }
            for (int word = 0; word < WORD_COUNT; word++) {
                if (isWord(word)) {
                    return word;
                }
            }
            return UNFIT;
        }

        private boolean isWord(int word) {
            for (int i = 0; i < WORD_SIZE; i++) {
                int b = start + i < place ? bytes[start + i] : ' ';
                if (WORDS.charAt(word * WORD_SIZE + i) != b) {
                    return false;
                }
            }
            return true;
        }
    }

    /** A row of numbers of a sort, or missing. */
    private static final class Sheet {
        private static final int BYTES = 0, SHORTS = 1;

        int sort = NO_SORT;
        int size = 0;
        final int[] cells = new int[CELLS];

        boolean isMissing() {
            return sort == NO_SORT;
        }

        void become(int newSort, int newSize) {
            sort = newSort;
            size = newSize;
            for (int i = 0; i < CELLS; i++) {
                cells[i] = 0;
            }
        }

        void write(int i, int v) {
            switch (sort) {
                case BYTES: cells[i] = (byte) v; break;
                case SHORTS: cells[i] = (short) v; break;
                default: cells[i] = v; break;
            }
        }
    }
}
