/** Promises 26 to 30: the edges of what to say and of when to come. */
final class WhenBounds extends BoundsOf {
    private static final Bounds.Hall FIFTEEN = () -> {
        NumbersCalled x = Halls.FULL.make();
        x.forget();
        return x;
    };

    // ---- promise 26

    @Says("BAD.")
    static void promise26_whats() {
        range("say(what)", Halls.SOME, BAD, 0, 1, (x, what) -> x.say(what));
    }

    @Says("Of waits 0, 5, .. 60 said to all that by which minds of all who are SERVED")
    static void promise26_zeroFiveAndSixty() {
        int[] best = {0, 1, 2, 3, 5, 57, 58, 60, 61, 65, 90};
        int[] said = {0, 0, 0, 5, 5, 55, 60, 60, 60, 60, 60};
        for (int i = 0; i < best.length; i++) {
            NumbersCalled x = Halls.by("takes 1;waits 9;minds (said-" + best[i] + ")*(said-" + best[i] + ");");
            x.pull(0, 10, 0);
            int off = said[i] - best[i];
            both("say, best " + best[i], x, (y, what) -> y.say(what), said[i], Math.min(999, off * off));
        }
    }

    @Says({"of like ones the first (what 0), how much (1).", "together, is least"})
    static void promise26_likeOnesTheFirst() {
        NumbersCalled x = Halls.by("takes 1;waits 9;minds 5;");
        x.pull(0, 10, 0);
        both("say, all alike", x, (y, what) -> y.say(what), 0, 5);
        Due.law(x, "takes 1;waits 9;minds 5 - 2 * (9 < said);");
        both("say, alike from 10 on", x, (y, what) -> y.say(what), 10, 3);
        Due.law(x, "takes 1;waits 9;minds 5 - 2 * (said = 60);");
        both("say, less at 60 alone", x, (y, what) -> y.say(what), 60, 3);
    }

    @Says("minds of all who are SERVED")
    static void promise26_nobodyIsServed() {
        both("say, nobody", new NumbersCalled(), (y, what) -> y.say(what), 0, 0);
        NumbersCalled x = Halls.by("takes 60;waits 9;minds 100 - said;");
        x.pull(0, 1010, 0);
        both("say, one waits yet", x, (y, what) -> y.say(what), 0, 0);
        x.pull(0, 10, 50);
        x.set(2, 50);
        both("say, one is turned away", x, (y, what) -> y.say(what), 0, 0);
        x.set(2, 120);
        x.pull(0, 10, 50);
        both("say, one is served, one missed", x, (y, what) -> y.say(what), 60, 40);
    }

    @Says("(wait: WAIT; 0 .. 999 each, else the bound)")
    static void promise26_zeroTo999Each() {
        // two wait 0 and 1
        String[] minds = {"998 + wait", "999 + wait", "1000 + wait", "0 - wait", "wait - 1", "9999 * wait - 9999",
            "2048*2048*512", "2048*2048*512-1"};
        int[] together = {998 + 999, 2 * 999, 2 * 999, 0, 0, 0, 0, 2 * 999};
        for (int i = 0; i < minds.length; i++) {
            NumbersCalled x = Halls.by("takes 1;waits 9;minds " + minds[i] + ";");
            Halls.pull(x, 2, 0, 10, 0);
            both("say, minds " + minds[i], x, (y, what) -> y.say(what), 0, together[i]);
        }
    }

    @Says("(wait: WAIT; 0 .. 999 each, else the bound), together, is least")
    static void promise26_sixteenTimes999() {
        NumbersCalled x = Halls.by("takes 1;waits 99;minds 9999;");
        Halls.pull(x, 16, 0, 10, 0);
        both("say", x, (y, what) -> y.say(what), 0, 16 * 999);
    }

    @Says("(wait: WAIT; 0 .. 999 each, else the bound)")
    static void promise26_theLongestWait() {
        // the last one waits 239 - 0
        NumbersCalled x = Halls.by("takes 60 - (base = 2);waits 999;minds wait;");
        Halls.pull(x, 3, 0, 10, 0);
        x.pull(0, 20, 0);
        x.pull(0, 10, 0);
        both("say", x, (y, what) -> y.say(what), 0, 60 + 120 + 180 + 239);
    }

    @Says("What is asked changes nothing, but where it is told.")
    static void promise26_asksOnly() {
        changesNothing("say(0)", Halls.SOME, x -> x.say(0));
    }

    // ---- promise 27

    @Says("-5: no such ASKER; -7: what.")
    static void promise27_askers() {
        range("best(a, 1)", Halls.SOME, NO_SUCH, 0, 2, (x, a) -> x.best(a, 1));
        range("best(a, 1), full", Halls.FULL, NO_SUCH, 0, 15, (x, a) -> x.best(a, 1));
        refused("best(0, 0), empty", NO_SUCH, Halls.EMPTY, x -> x.best(0, 0));
    }

    @Says("-5: no such ASKER; -7: what.")
    static void promise27_whats() {
        range("best(0, what)", Halls.SOME, NOT_SO, 0, 1, (x, what) -> x.best(0, what));
    }

    @Says("-5: no such ASKER; -7: what.")
    static void promise27_noSuchAskerComesFirst() {
        refused("best(3, 2)", NO_SUCH, Halls.SOME, x -> x.best(3, 2));
        refused("best(-1, -1)", NO_SUCH, Halls.SOME, x -> x.best(-1, -1));
    }

    @Says("What is asked changes nothing, but where it is told.")
    static void promise27_asksOnly() {
        changesNothing("best(1, 0)", Halls.SOME, x -> x.best(1, 0));
    }

    @Says({"BEST to come for one (what 0), how BAD it is then (1).",
        "BEST to come: of minutes 0, 20, .. 100, all others coming as they do, that by which it is least BAD for one, of like ones the first."})
    static void promise27_zeroIsTheFirst() {
        NumbersCalled x = Halls.one();
        x.pull(0, 10, 119);
        both("best(0), alone", x, (y, what) -> y.best(0, what), 0, 0);
        x.change(0, 2, 0);
        both("best(0), a break at 0", x, (y, what) -> y.best(0, what), 20, 0);
        x.change(0, 2, 119);
        both("best(0), a break at 119", x, (y, what) -> y.best(0, what), 0, 0);
    }

    @Says("of minutes 0, 20, .. 100")
    static void promise27_hundredIsTheLast() {
        // another one is ahead at 0, 20 .. 80 (and at 81 .. 99); the counter is free at 100
        NumbersCalled x = Halls.by("takes 20;waits 999;minds 1;");
        for (int minute = 0; minute < 100; minute += 20) {
            x.pull(0, 10, minute);
        }
        x.pull(0, 10, 50);
        both("best(5), free from 100 on", x, (y, what) -> y.best(5, what), 100, 0);
        x.change(0, 2, 100);
        // by 0 .. 80 it waits at least 20 and the break
        both("best(5), free from 110 on", x, (y, what) -> y.best(5, what), 100, 10);
        x.set(2, 100);
        both("best(5), stop 100", x, (y, what) -> y.best(5, what), 0, 20);
        x.set(2, 101);
        both("best(5), stop 101", x, (y, what) -> y.best(5, what), 100, 10);
    }

    @Says("IT IS BAD for one: WAIT, or 120, if one isn't SERVED.")
    static void promise27_notServedIs120() {
        NumbersCalled x = new NumbersCalled();
        x.pull(0, 10, 50);
        both("best(0), no counter", x, (y, what) -> y.best(0, what), 0, 120);
        x.counter(2, 0);
        both("best(0), nobody does it", x, (y, what) -> y.best(0, what), 0, 120);
        x.counter(1, 0);
        x.set(2, 0);
        both("best(0), stop 0", x, (y, what) -> y.best(0, what), 0, 120);
        x.set(2, 1);
        both("best(0), stop 1", x, (y, what) -> y.best(0, what), 0, 0);
    }

    /** From 20 on all are turned away; at 0 one waits as long as those ahead take: 60, 60 - less, more. */
    private static NumbersCalled behindOthers(int less, int more) {
        NumbersCalled x = Halls.by("takes base;waits 999;minds 1;");
        x.pull(0, 600, 0);
        x.pull(0, 600 - 10 * less, 0);
        for (int i = 0; i < more; i++) {
            x.pull(0, 10, 0);
        }
        x.pull(0, 10, 0);
        x.set(2, 20);
        return x;
    }

    @Says("IT IS BAD for one: WAIT, or 120, if one isn't SERVED.")
    static void promise27_aWaitOf119And120And121() {
        both("best(2), 119", behindOthers(1, 0), (y, what) -> y.best(2, what), 0, 119);
        both("best(2), 120", behindOthers(0, 0), (y, what) -> y.best(2, what), 0, 120);
        // not to be served is less bad than to wait for 121
        both("best(3), 121", behindOthers(0, 1), (y, what) -> y.best(3, what), 20, 120);
    }

    // ---- promise 28

    @Says("ASKERS (bits) for whom BEST is less BAD than it is.")
    static void promise28_noneAndTheSixteenth() {
        is("uneasy(), nobody", new NumbersCalled().uneasy(), 0);
        NumbersCalled x = new NumbersCalled();
        for (int a = 0; a < 15; a++) {
            x.pull(0, 10, 0);
        }
        x.counter(2, 0);
        x.pull(0, 1010, 119);
        is("uneasy(), at rest", x.uneasy(), 0);
        x.set(2, 119);
        is("uneasy(), the sixteenth is turned away", x.uneasy(), 1 << 15);
        x.set(2, 120);
        x.change(0, 0, 1);
        // 30 minutes and one are waited by text 0: all are served
        is("uneasy(), all but the first, not the sixteenth", x.uneasy(), (1 << 15) - 2);
    }

    @Says("ASKERS (bits) for whom BEST is less BAD than it is.")
    static void promise28_allSixteen() {
        NumbersCalled x = Halls.one();
        Halls.pull(x, 16, 0, 10, 119);
        x.set(2, 119);
        is("uneasy(), all are turned away", x.uneasy(), (1 << 16) - 1);
    }

    @Says("for whom BEST is less BAD than it is")
    static void promise28_lessByOneAndAlike() {
        NumbersCalled x = Halls.one();
        x.pull(0, 10, 50);
        x.pull(0, 10, 50);
        is("uneasy(), a wait of 1", x.uneasy(), 2);
        x.move(1, 51);
        is("uneasy(), alike", x.uneasy(), 0);
    }

    @Says("for whom BEST is less BAD than it is")
    static void promise28_aWaitOf119And120And121() {
        is("uneasy(), 119", behindOthers(1, 0).uneasy(), 0);
        is("uneasy(), 120", behindOthers(0, 0).uneasy(), 0);
        is("uneasy(), 120 and 121", behindOthers(0, 1).uneasy(), 8);
    }

    @Says("What is asked changes nothing, but where it is told.")
    static void promise28_asksOnly() {
        changesNothing("uneasy()", Halls.SOME, NumbersCalled::uneasy);
        changesNothing("uneasy(), full", Halls.FULL, NumbersCalled::uneasy);
    }

    // ---- promise 29

    @Says({"Day by day (0 .. 5), on each all ASKERS in turn", "BAD."})
    static void promise29_days() {
        range("rests(days)", Halls.SOME, BAD, 0, 5, (x, days) -> x.rests(days));
    }

    @Says("Day by day (0 .. 5)")
    static void promise29_noDay() {
        NumbersCalled x = Halls.one();
        Halls.pull(x, 2, 0, 100, 0);
        is("rests(0)", x.rests(0), 0);
        is("told(1, 4)", x.told(1, 4), 0);
        changesNothing("rests(0)", Halls.FULL, y -> y.rests(0));
    }

    @Says("truly COMES then")
    static void promise29_trulyComesThen() {
        NumbersCalled x = Halls.one();
        Halls.pull(x, 2, 0, 100, 0);
        is("rests(1)", x.rests(1), 1);
        is("told(1, 4)", x.told(1, 4), 20);
        is("told(0, 4)", x.told(0, 4), 0);
        is("sum(1)", x.sum(1), 0);
    }

    @Says("it ends behind a day on which nobody did: how often anyone did.")
    static void promise29_nobodyDid() {
        is("rests(5), nobody", new NumbersCalled().rests(5), 0);
        changesNothing("rests(5), at rest", () -> {
            NumbersCalled x = Halls.one();
            x.pull(0, 10, 77);
            return x;
        }, x -> x.rests(5));
    }

    @Says("it ends behind a day on which nobody did: how often anyone did.")
    static void promise29_sixteenAndFiveDays() {
        for (int days = 0; days <= 5; days++) {
            restsAsToldByBest(WhenBounds::crowd, days);
            restsAsToldByBest(() -> without(45, 3), days);
            restsAsToldByBest(() -> without(30, 16), days);
        }
    }

    @Says("on each all ASKERS in turn: for whom BEST is less BAD than it is, truly COMES then")
    static void promise29_theFirstAndTheSixteenth() {
        // two counters: the first and the last asker come too late for theirs
        NumbersCalled x = Halls.one();
        x.counter(2, 0);
        x.pull(0, 1010, 90);
        for (int a = 1; a < 15; a++) {
            x.pull(0, 10, a);
        }
        x.pull(0, 1010, 91);
        x.set(2, 90);
        is("rests(5)", x.rests(5), 2);
        is("told(0, 4)", x.told(0, 4), 0);
        is("told(15, 4)", x.told(15, 4), 20);
        is("rests(5) again", x.rests(5), 0);
    }

    /** Sixteen of all kinds and letters, three counters. */
    private static NumbersCalled crowd() {
        NumbersCalled x = new NumbersCalled();
        for (int c = 0; c < 3; c++) {
            x.counter(7 - c, 3 * c);
        }
        for (int a = 0; a < 16; a++) {
            x.pull(a % 6, 1000 * (a % 3) + 10 * (5 + a) + a % 10, 5 * (a % 5));
        }
        return x;
    }

    /** So many come at 0, each for as long; they never come to rest, or late. */
    private static NumbersCalled without(int takes, int many) {
        NumbersCalled x = Halls.by("takes " + takes + ";waits 999;minds 1;");
        Halls.pull(x, many, 0, 10, 0);
        return x;
    }

    /** What best() tells of each in turn, and a move then, day by day. */
    private static void restsAsToldByBest(Bounds.Hall hall, int days) {
        NumbersCalled x = hall.make();
        NumbersCalled y = hall.make();
        int often = 0;
        boolean anyone = true;
        for (int d = 0; d < days && anyone; d++) {
            anyone = false;
            for (int a = 0; a < y.count(4); a++) {
                int is = y.of(a, 0) == 2 ? y.of(a, 4) : 120;
                if (y.best(a, 1) < is) {
                    y.move(a, y.best(a, 0));
                    often++;
                    anyone = true;
                }
            }
        }
        is("rests(" + days + ")", x.rests(days), often);
        for (int a = 0; a < x.count(4); a++) {
            is("told(" + a + ", 4)", x.told(a, 4), y.told(a, 4));
        }
    }

    @Says("for whom BEST is less BAD than it is")
    static void promise29_notServedIsLessBadThan121() {
        NumbersCalled x = behindOthers(0, 1);
        is("rests(1)", x.rests(1), 1);
        is("told(3, 4)", x.told(3, 4), 20);
        is("of(3, 0)", x.of(3, 0), 4);
        NumbersCalled y = behindOthers(0, 0);
        is("rests(1), 120", y.rests(1), 0);
    }

    @Says("truly COMES then")
    static void promise29_theImageStays() {
        NumbersCalled x = Halls.one();
        Halls.pull(x, 2, 0, 100, 0);
        x.image();
        x.rests(5);
        is("back()", x.back(), 2);
        is("told(1, 4)", x.told(1, 4), 0);
    }

    // ---- promise 30

    @Says({"For one ASKER more (KIND 0, a LETTER, BASE 1 .. 99, MORE 9; behind all others)", "BAD; STATE: there are 16."})
    static void promise30_lettersBasesWhats() {
        range("when(letter, 5, 1)", Halls.SOME, BAD, 0, 3, (x, letter) -> x.when(letter, 5, 1));
        range("when(0, base, 1)", Halls.SOME, BAD, 1, 99, (x, base) -> x.when(0, base, 1));
        range("when(0, 5, what)", Halls.SOME, BAD, 0, 1, (x, what) -> x.when(0, 5, what));
    }

    @Says("BAD; STATE: there are 16.")
    static void promise30_fifteenAndSixteen() {
        refused("when(0, 1, 0), 16", STATE, Halls.FULL, x -> x.when(0, 1, 0));
        refused("when(3, 99, 1), 16", STATE, Halls.FULL, x -> x.when(3, 99, 1));
        yes("when(0, 1, 0), 15", FIFTEEN.make().when(0, 1, 0) >= 0);
        yes("when(3, 99, 1), 15", FIFTEEN.make().when(3, 99, 1) >= 0);
    }

    @Says("BAD; STATE: there are 16.")
    static void promise30_badComesAheadOfState() {
        refused("when(4, 1, 0)", BAD, Halls.FULL, x -> x.when(4, 1, 0));
        refused("when(-1, 1, 0)", BAD, Halls.FULL, x -> x.when(-1, 1, 0));
        refused("when(0, 0, 0)", BAD, Halls.FULL, x -> x.when(0, 0, 0));
        refused("when(0, 100, 0)", BAD, Halls.FULL, x -> x.when(0, 100, 0));
        refused("when(0, 1, 2)", BAD, Halls.FULL, x -> x.when(0, 1, 2));
        refused("when(0, 1, -1)", BAD, Halls.FULL, x -> x.when(0, 1, -1));
    }

    @Says("What is asked changes nothing, but where it is told.")
    static void promise30_asksOnly() {
        changesNothing("when(3, 99, 0)", Halls.SOME, x -> x.when(3, 99, 0));
        changesNothing("when(3, 99, 0), empty", Halls.EMPTY, x -> x.when(3, 99, 0));
        changesNothing("when(3, 99, 0), 15", FIFTEEN, x -> x.when(3, 99, 0));
    }

    @Says({"For one ASKER more (KIND 0, a LETTER, BASE 1 .. 99, MORE 9; behind all others) what best() tells.", "BAD; STATE: there are 16."})
    static void promise30_asOneMoreIsTold() {
        for (Bounds.Hall hall : new Bounds.Hall[] {Halls.EMPTY, Halls.SOME, FIFTEEN, Halls::one}) {
            for (int letter = 0; letter < 4; letter++) {
                for (int base : new int[] {1, 50, 99}) {
                    NumbersCalled x = hall.make();
                    NumbersCalled y = hall.make();
                    int a = y.pull(0, 1000 * letter + 10 * base + 9, 119);
                    int l = letter;
                    both("when(" + letter + ", " + base + ")", x, (z, what) -> z.when(l, base, what), y.best(a, 0), y.best(a, 1));
                }
            }
        }
    }

    @Says("IT IS BAD for one: WAIT, or 120, if one isn't SERVED.")
    static void promise30_nobodyServesThatLetter() {
        both("when(0, 1), empty", new NumbersCalled(), (y, what) -> y.when(0, 1, what), 0, 120);
        NumbersCalled x = new NumbersCalled();
        x.counter(7, 0);
        both("when(3, 1)", x, (y, what) -> y.when(3, 1, what), 0, 120);
        both("when(2, 1)", x, (y, what) -> y.when(2, 1, what), 0, 0);
    }

    @Says("MORE 9; behind all others")
    static void promise30_more9AndBehindAllOthers() {
        // at 0 behind one who takes 60; waits 54 or 63 by more
        NumbersCalled x = Halls.by("takes 60;waits more * 7;minds 1;");
        x.pull(0, 990, 0);
        x.set(2, 20);
        both("when(0, 99)", x, (y, what) -> y.when(0, 99, what), 0, 60);
        Due.law(x, "takes 60;waits more * 6;minds 1;");
        both("when(0, 99), 54", x, (y, what) -> y.when(0, 99, what), 0, 120);
    }
}
