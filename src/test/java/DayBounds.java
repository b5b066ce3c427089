/** Promises 15 to 18: the edges of a day. */
final class DayBounds extends BoundsOf {
    private static final String LONG = "takes 60;waits 999;minds wait;";

    /** Called last at begin by counter 0, and served. */
    private static void served(NumbersCalled x, int a, int begin, int end, int times) {
        servedAt(x, a, begin, end, 0, times);
    }

    private static void servedAt(NumbersCalled x, int a, int begin, int end, int c, int times) {
        int[] want = {2, begin, end, c, begin - x.told(a, 4), times};
        for (int what = 0; what < 6; what++) {
            is("of(" + a + ", " + what + ")", x.of(a, what), want[what]);
        }
    }

    private static void lost(NumbersCalled x, int a, int fate, int times) {
        int[] want = {fate, -1, -1, -1, -1, times};
        for (int what = 0; what < 6; what++) {
            is("of(" + a + ", " + what + ")", x.of(a, what), want[what]);
        }
    }

    private static void sums(NumbersCalled x, int... want) {
        for (int what = 0; what < 8; what++) {
            is("sum(" + what + ")", x.sum(what), want[what]);
        }
    }

    // ---- promise 15: refusals

    @Says("-5: no such ASKER; -7: what.")
    static void promise15_askers() {
        range("of(a, 0)", Halls.SOME, NO_SUCH, 0, 2, (x, a) -> x.of(a, 0));
        range("of(a, 0), full", Halls.FULL, NO_SUCH, 0, 15, (x, a) -> x.of(a, 0));
        refused("of(0, 0), empty", NO_SUCH, Halls.EMPTY, x -> x.of(0, 0));
    }

    @Says("-5: no such ASKER; -7: what.")
    static void promise15_whats() {
        range("of(0, what)", Halls.SOME, NOT_SO, 0, 5, (x, what) -> x.of(0, what));
    }

    @Says("-5: no such ASKER; -7: what.")
    static void promise15_noSuchAskerComesFirst() {
        refused("of(3, 6)", NO_SUCH, Halls.SOME, x -> x.of(3, 6));
        refused("of(-1, -1)", NO_SUCH, Halls.SOME, x -> x.of(-1, -1));
    }

    @Says("of several the first one told (a -1 that is an answer comes behind the refusal of a number)")
    static void promise15_minusOneComesLast() {
        NumbersCalled x = new NumbersCalled();
        x.pull(0, 10, 0);
        is("of(1, 1), no such asker", x.of(1, 1), NO_SUCH);
        is("of(0, 6), not served", x.of(0, 6), NOT_SO);
        is("of(0, -1), not served", x.of(0, -1), NOT_SO);
        is("of(0, 4), not served", x.of(0, 4), -1);
    }

    @Says("What is asked changes nothing, but where it is told.")
    static void promise15_asksOnly() {
        changesNothing("of(1, 2)", Halls.SOME, x -> x.of(1, 2));
    }

    // ---- promise 15: minutes

    @Says("A DAY: minutes 0 .. 239.")
    static void promise15_theFirstMinute() {
        NumbersCalled x = Halls.one();
        x.pull(0, 10, 0);
        served(x, 0, 0, 1, 1);
    }

    @Says("A DAY: minutes 0 .. 239.")
    static void promise15_theLastMinute() {
        NumbersCalled x = Halls.by(LONG);
        Halls.pull(x, 4, 0, 100, 119);
        served(x, 0, 119, 179, 1);
        served(x, 1, 179, 239, 1);
        served(x, 2, 239, 299, 1);
        lost(x, 3, 1, 0);
    }

    @Says("A DAY: minutes 0 .. 239.")
    static void promise15_behindTheLastMinute() {
        NumbersCalled x = Halls.by("takes 60 - (base < 10);waits 999;minds wait;");
        x.pull(0, 100, 119);
        x.pull(0, 100, 119);
        x.pull(0, 100, 119);
        served(x, 2, 239, 299, 1);
        x.set(0, 2);
        x.forget();
        x.pull(0, 90, 119);
        // 59, 60: the third one begins at 238
        served(x, 2, 119, 178, 1);
        served(x, 1, 238, 298, 1);
        x.change(0, 2, 119);
        // all ten minutes later: 248 is behind the last minute
        served(x, 2, 129, 188, 1);
        lost(x, 1, 1, 0);
    }

    @Says("A DAY: minutes 0 .. 239.")
    static void promise15_calledInTheLastMinuteAndNotThere() {
        NumbersCalled x = Halls.by("takes 60;waits 120 - (base = 2);minds wait;");
        x.pull(0, 100, 119);
        x.pull(0, 100, 119);
        x.pull(0, 20, 119);
        lost(x, 2, 1, 1);
        x.set(1, 1);
        lost(x, 2, 3, 1);
        x.set(1, 3);
        x.forget();
        x.pull(0, 30, 119);
        served(x, 2, 239, 299, 1);
    }

    @Says("In each first all who COME in it, by numbers: they wait, or, from STOP on, are TURNED AWAY.")
    static void promise15_fromStopOn() {
        NumbersCalled x = Halls.one();
        x.pull(0, 10, 49);
        x.pull(0, 10, 50);
        x.pull(0, 10, 51);
        x.set(2, 50);
        served(x, 0, 49, 50, 1);
        lost(x, 1, 4, 0);
        lost(x, 2, 4, 0);
        x.set(2, 51);
        served(x, 1, 50, 51, 1);
        lost(x, 2, 4, 0);
    }

    @Says("the minute from which on numbers STOP (0 .. 120;")
    static void promise15_stopZeroAndOne() {
        NumbersCalled x = Halls.one();
        x.pull(0, 10, 0);
        x.set(2, 0);
        lost(x, 0, 4, 0);
        x.set(2, 1);
        served(x, 0, 0, 1, 1);
    }

    @Says("the minute from which on numbers STOP (0 .. 120;")
    static void promise15_stop119And120() {
        NumbersCalled x = Halls.one();
        x.pull(0, 10, 119);
        x.set(2, 119);
        lost(x, 0, 4, 0);
        x.set(2, 120);
        served(x, 0, 119, 120, 1);
    }

    @Says("In each first all who COME in it")
    static void promise15_whoComesIsCalledInThatMinute() {
        NumbersCalled x = Halls.one();
        x.pull(0, 100, 30);
        x.pull(0, 100, 40);
        served(x, 0, 30, 40, 1);
        served(x, 1, 40, 50, 1);
    }

    // ---- promise 15: breaks

    @Says({"a BREAK of ten minutes from a minute on (0 .. 119;", "each that is not busy and has no BREAK"})
    static void promise15_theTenMinutesOfABreak() {
        int[] comes = {49, 50, 51, 58, 59, 60, 61};
        int[] begins = {49, 60, 60, 60, 60, 60, 61};
        for (int i = 0; i < comes.length; i++) {
            NumbersCalled x = Halls.one();
            x.change(0, 2, 50);
            x.pull(0, 10, comes[i]);
            served(x, 0, begins[i], begins[i] + 1, 1);
        }
    }

    @Says("a BREAK of ten minutes from a minute on (0 .. 119;")
    static void promise15_aBreakAtZeroAndNone() {
        NumbersCalled x = Halls.one();
        x.pull(0, 10, 0);
        x.change(0, 2, 0);
        served(x, 0, 10, 11, 1);
        x.change(0, 2, -1);
        served(x, 0, 0, 1, 1);
        x.change(0, 2, 1);
        served(x, 0, 0, 1, 1);
    }

    @Says("a BREAK of ten minutes from a minute on (0 .. 119;")
    static void promise15_aBreakAt119() {
        NumbersCalled x = Halls.one();
        x.change(0, 2, 119);
        x.pull(0, 10, 118);
        served(x, 0, 118, 119, 1);
        x.move(0, 119);
        served(x, 0, 129, 130, 1);
    }

    @Says("(one that is busy goes on in its BREAK)")
    static void promise15_busyIntoItsBreak() {
        NumbersCalled x = Halls.one();
        x.pull(0, 100, 41);
        x.pull(0, 100, 42);
        x.change(0, 2, 50);
        // till 51; the break goes on till 60
        served(x, 0, 41, 51, 1);
        served(x, 1, 60, 70, 1);
    }

    @Says("(one that is busy goes on in its BREAK)")
    static void promise15_busyTillItsBreakBegins() {
        NumbersCalled x = Halls.one();
        x.pull(0, 100, 40);
        x.pull(0, 100, 42);
        x.change(0, 2, 50);
        served(x, 0, 40, 50, 1);
        served(x, 1, 60, 70, 1);
        x.change(0, 2, 51);
        served(x, 1, 50, 60, 1);
    }

    @Says("(one that is busy goes on in its BREAK)")
    static void promise15_busyTillItsBreakEnds() {
        NumbersCalled x = Halls.one();
        x.pull(0, 100, 49);
        x.pull(0, 100, 50);
        x.change(0, 2, 50);
        // 59 is still of the break; with one minute more it is over
        served(x, 0, 49, 59, 1);
        served(x, 1, 60, 70, 1);
        x.change(0, 1, 1);
        served(x, 0, 49, 60, 1);
        served(x, 1, 60, 71, 1);
        x.change(0, 1, 2);
        served(x, 1, 61, 73, 1);
    }

    // ---- promise 15: who is called

    @Says("Then COUNTER by COUNTER")
    static void promise15_fourCountersByNumbers() {
        NumbersCalled x = new NumbersCalled();
        for (int c = 0; c < 4; c++) {
            x.counter(1, 0);
        }
        Halls.pull(x, 5, 0, 100, 7);
        for (int a = 0; a < 4; a++) {
            servedAt(x, a, 7, 17, a, 1);
        }
        servedAt(x, 4, 17, 27, 0, 1);
    }

    @Says("it calls the one who is first of those who wait with a LETTER that it DOES")
    static void promise15_eachLetterIsABit() {
        for (int letter = 0; letter < 4; letter++) {
            NumbersCalled x = new NumbersCalled();
            x.counter(15 - (1 << letter), 0);
            x.pull(0, 1000 * letter + 10, 0);
            lost(x, 0, 1, 0);
            x.counter(1 << letter, 0);
            servedAt(x, 0, 0, 1, 1, 1);
        }
    }

    @Says("it calls the one who is first of those who wait with a LETTER that it DOES")
    static void promise15_noCounterAndNoLetter() {
        NumbersCalled x = new NumbersCalled();
        x.pull(0, 10, 0);
        lost(x, 0, 1, 0);
        x.counter(0, 0);
        lost(x, 0, 1, 0);
    }

    @Says({"FIRST: WHO 0: who COMES first;", "of like ones who COMES first, of like ones the least number."})
    static void promise15_who0() {
        NumbersCalled x = order(0, 0, 100, 5, 4, 10, 4, 3, 10, 5);
        served(x, 1, 10, 11, 1);
        served(x, 0, 11, 21, 1);
        served(x, 2, 21, 23, 1);
    }

    @Says({"1 OLD ones ahead;", "of like ones who COMES first, of like ones the least number."})
    static void promise15_who1() {
        NumbersCalled x = order(1, 0, 10, 1, 4, 20, 3, 4, 30, 2, 4, 40, 3, 0, 50, 1);
        served(x, 2, 10, 13, 1);
        served(x, 1, 13, 15, 1);
        served(x, 3, 15, 19, 1);
        served(x, 0, 19, 20, 1);
        served(x, 4, 20, 25, 1);
    }

    @Says({"4 OLD (an ASKER): is OLD.", "whether one is OLD.", "takes (1 .. 60, else the bound); no."})
    static void promise15_onlyAnOldOneIsOld() {
        for (int kind = 0; kind < 6; kind++) {
            NumbersCalled x = order(1, 0, 10, 1, kind, 20, 2);
            x.change(0, 0, 15);
            is("kind " + kind + " is ahead", x.of(1, 1) < x.of(0, 1) ? 1 : 0, kind == 4 ? 1 : 0);
        }
    }

    @Says("3 BACKS ahead;")
    static void promise15_onlyABackIsBack() {
        for (int kind = 0; kind < 6; kind++) {
            NumbersCalled x = order(3, 0, 10, 1, kind, 20, 2);
            x.change(0, 0, 15);
            is("kind " + kind + " is ahead", x.of(1, 1) < x.of(0, 1) ? 1 : 0, kind == 3 ? 1 : 0);
        }
    }

    @Says({"2 the least BASE ahead;", "of like ones who COMES first, of like ones the least number."})
    static void promise15_who2() {
        NumbersCalled x = order(2, 0, 990, 0, 0, 10, 9, 0, 20, 8, 0, 20, 7, 0, 20, 8);
        served(x, 1, 10, 11, 1);
        served(x, 3, 11, 13, 1);
        served(x, 2, 13, 15, 1);
        served(x, 4, 15, 17, 1);
        served(x, 0, 17, 77, 1);
    }

    @Says({"3 BACKS ahead; of like ones who COMES first, of like ones the least number."})
    static void promise15_who3() {
        NumbersCalled x = order(3, 2, 10, 1, 3, 20, 3, 3, 30, 2, 3, 40, 3, 4, 50, 1);
        x.change(0, 0, 3);
        served(x, 2, 10, 16, 1);
        served(x, 1, 16, 20, 1);
        served(x, 3, 20, 28, 1);
        served(x, 0, 28, 29, 1);
        served(x, 4, 29, 34, 1);
    }

    /** All wait (as long as it takes) when a break ends at 10; three by three as of pull(). */
    private static NumbersCalled order(int who, int... pulls) {
        NumbersCalled x = Halls.by("takes base;waits 999;minds wait;");
        x.set(0, who);
        x.change(0, 2, 0);
        for (int i = 0; i < pulls.length; i += 3) {
            x.pull(pulls[i], pulls[i + 1], pulls[i + 2]);
        }
        return x;
    }

    // ---- promise 15: not there, missed

    /** An OFF of so much more comes at 0; the counter has a break till 10, or is busy so long. */
    private static NumbersCalled off(int more, int busy) {
        NumbersCalled x = Halls.by("takes base;waits 999;minds wait;");
        x.pull(0, 10 * busy, 0);
        x.pull(1, 10 + more, 0);
        return x;
    }

    @Says("If one isn't THERE: one goes on waiting, or, if one was CALLED so often, is MISSED.")
    static void promise15_missedAtTheLastCall() {
        // more 6: not there from 8 to 15; called at 8 .. 15, and at 16 there
        NumbersCalled x = off(6, 8);
        x.set(1, 9);
        served(x, 1, 16, 17, 9);
        x.set(1, 8);
        lost(x, 1, 3, 8);
        x.set(1, 1);
        lost(x, 1, 3, 1);
    }

    @Says("how often one is CALLED (1 .. 9; 3 at first)")
    static void promise15_calledNineTimesAtMost() {
        // more 7: not there from 9 to 17; called at 9 .. 17
        NumbersCalled x = off(7, 9);
        x.set(1, 9);
        lost(x, 1, 3, 9);
        x.set(1, 3);
        lost(x, 1, 3, 3);
    }

    @Says("If one isn't THERE: one goes on waiting, or, if one was CALLED so often, is MISSED.")
    static void promise15_thereAtTheLastCall() {
        // more 0: not there at 2, 3; called at 3 and at 4
        NumbersCalled x = off(0, 3);
        x.set(1, 2);
        served(x, 1, 4, 5, 2);
        x.set(1, 1);
        lost(x, 1, 3, 1);
        // called at 4 alone
        NumbersCalled y = off(0, 4);
        y.set(1, 1);
        served(y, 1, 4, 5, 1);
    }

    @Says("If one isn't THERE: one goes on waiting, or, if one was CALLED so often, is MISSED.")
    static void promise15_calledMoreOftenThanThat() {
        // sent on at 0 (called once), away at its second call
        NumbersCalled x = new NumbersCalled();
        x.counter(1, 0);
        x.counter(2, 0);
        Due.law(x, "takes 60;waits 59;minds wait;");
        x.pull(0, 1100, 0);
        x.pull(2, 100, 0);
        x.set(1, 1);
        lost(x, 1, 3, 2);
        x.set(1, 2);
        lost(x, 1, 3, 2);
        x.set(1, 3);
        lost(x, 1, 3, 3);
    }

    @Says("0 ASKER: as long as these are no more than waits")
    static void promise15_waitsToTheMinute() {
        NumbersCalled x = Halls.by("takes 50;waits base;minds wait;");
        x.pull(0, 10, 0);
        x.pull(0, 500, 0);
        served(x, 1, 50, 100, 1);
        x.forget();
        x.pull(0, 490, 0);
        lost(x, 1, 3, 3);
        x.move(1, 1);
        served(x, 1, 50, 100, 1);
    }

    @Says({"slow: of takes SLOW of the COUNTER, else 0", "said: of minds what was said, else 0"})
    static void promise15_slowIsOfTakesAlone() {
        NumbersCalled x = Halls.by("takes 7 + slow + said * 30;waits 7 + 9 + (slow + said) * 30;minds 1;");
        x.pull(0, 10, 0);
        x.pull(0, 10, 0);
        x.change(0, 1, 9);
        served(x, 0, 0, 16, 1);
        served(x, 1, 16, 32, 1);
        Due.law(x, "takes 7 + slow + said * 30;waits 7 + 8 + (slow + said) * 30;minds 1;");
        lost(x, 1, 3, 3);
    }

    @Says("Who is called: one time more CALLED; the COUNTER is busy for that minute.")
    static void promise15_twoCountersCallTheSameInAMinute() {
        // more 8: not there from 10 to 19; both have a break till 10
        NumbersCalled x = new NumbersCalled();
        x.counter(1, 0);
        x.counter(1, 0);
        x.change(0, 2, 0);
        x.change(1, 2, 0);
        x.pull(1, 108, 0);
        x.set(1, 2);
        lost(x, 0, 3, 2);
        is("idle(0): one minute was busy", x.idle(0), 229);
        is("idle(1): one minute was busy", x.idle(1), 229);
        x.set(1, 3);
        lost(x, 0, 3, 3);
        is("idle(0): two minutes were busy", x.idle(0), 228);
    }

    // ---- promise 15: the wrong letter, served

    @Says("Else, if the COUNTER doesn't do the LETTER that one NEEDS, one goes on waiting with that LETTER.")
    static void promise15_behindThreeIsZero() {
        NumbersCalled x = new NumbersCalled();
        x.counter(8, 0);
        x.counter(1, 0);
        x.pull(2, 3100, 0);
        servedAt(x, 0, 0, 10, 1, 2);
        x.change(1, 0, 14);
        lost(x, 0, 1, 1);
    }

    @Says("(that pulled, till another one is told)")
    static void promise15_noLongerWithTheOneThatWasPulled() {
        NumbersCalled x = new NumbersCalled();
        x.counter(1, 0);
        x.pull(2, 100, 0);
        // called once; then nobody does letter 1
        lost(x, 0, 1, 1);
        is("idle(0)", x.idle(0), 239);
        x.change(0, 0, 3);
        served(x, 0, 0, 10, 1);
        x.change(0, 0, 2);
        lost(x, 0, 1, 0);
    }

    @Says("Else one is SERVED: it begins then, ends behind what one TAKES, and the COUNTER is busy till then.")
    static void promise15_takesOneAndSixty() {
        NumbersCalled x = Halls.one();
        x.pull(0, 10, 0);
        x.pull(0, 999, 0);
        x.pull(3, 999, 0);
        x.pull(0, 10, 0);
        served(x, 0, 0, 1, 1);
        served(x, 1, 1, 61, 1);
        served(x, 2, 61, 121, 1);
        lost(x, 3, 3, 3);
    }

    @Says("1 when it began, 2 ended, 3 at which COUNTER, 4 WAIT (-1 all: not SERVED), 5 how often CALLED.")
    static void promise15_notServedIsMinusOne() {
        NumbersCalled x = off(7, 9);
        x.pull(0, 1010, 0);
        x.pull(0, 10, 5);
        x.set(2, 5);
        lost(x, 1, 3, 3);
        lost(x, 2, 1, 0);
        lost(x, 3, 4, 0);
    }

    @Says("Behind A DAY of an ASKER what 0 0 (not come), 1 waits yet, 2 SERVED, 3 MISSED, 4 TURNED AWAY;")
    static void promise15_behindADayAllHaveCome() {
        NumbersCalled x = new NumbersCalled();
        x.pull(0, 10, 119);
        lost(x, 0, 1, 0);
    }

    // ---- promise 16

    @Says("BAD.")
    static void promise16_whats() {
        range("sum(what)", Halls.SOME, BAD, 0, 7, (x, what) -> x.sum(what));
    }

    @Says({"Behind A DAY what 0 how many are SERVED, 1 all WAITS, 2 the longest, 3 the latest end (0: none),",
        "4 how many are MISSED, 5 TURNED AWAY, 6 wait yet, 7 IDLE minutes of all COUNTERS."})
    static void promise16_empty() {
        sums(new NumbersCalled(), 0, 0, 0, 0, 0, 0, 0, 0);
        sums(Halls.one(), 0, 0, 0, 0, 0, 0, 0, 240);
    }

    @Says({"3 the latest end (0: none)", "5 TURNED AWAY", "6 wait yet"})
    static void promise16_sixteenNotServed() {
        NumbersCalled x = new NumbersCalled();
        Halls.pull(x, 16, 0, 10, 50);
        sums(x, 0, 0, 0, 0, 0, 0, 16, 0);
        x.set(2, 50);
        sums(x, 0, 0, 0, 0, 0, 16, 0, 0);
        for (int c = 0; c < 4; c++) {
            x.counter(1, 0);
        }
        sums(x, 0, 0, 0, 0, 0, 16, 0, 960);
    }

    @Says("4 how many are MISSED")
    static void promise16_sixteenMissedOrServed() {
        NumbersCalled x = Halls.by("takes 1;waits 9;minds wait;");
        x.set(1, 1);
        x.change(0, 2, 0);
        Halls.pull(x, 16, 0, 10, 0);
        // at 10 none is there any more
        sums(x, 0, 0, 0, 0, 16, 0, 0, 240 - 10 - 16);
        x.change(0, 2, -1);
        // at 0 .. 9 ten are there, at 10 .. 15 six are not
        sums(x, 10, 45, 9, 10, 6, 0, 0, 240 - 16);
    }

    @Says({"1 all WAITS, 2 the longest, 3 the latest end (0: none)", "WAIT of one who is SERVED: from when one COMES to when it begins."})
    static void promise16_theLongestAndTheLatest() {
        NumbersCalled x = Halls.by(LONG);
        Halls.pull(x, 4, 0, 10, 0);
        x.pull(0, 10, 119);
        // 0, 60, 120, 180 and 240
        sums(x, 4, 360, 180, 240, 0, 0, 1, 0);
        x.change(0, 2, 119);
        // 0, 60, and behind the break 129, 189
        sums(x, 4, 378, 189, 249, 0, 0, 1, 0);
        x.move(3, 1);
        is("sum(2)", x.sum(2), 188);
        NumbersCalled y = Halls.one();
        y.pull(0, 10, 0);
        sums(y, 1, 0, 0, 1, 0, 0, 0, 239);
    }

    @Says("What is asked changes nothing, but where it is told.")
    static void promise16_asksOnly() {
        changesNothing("sum(1)", Halls.SOME, x -> x.sum(1));
    }

    // ---- promise 17

    @Says("-5: no such COUNTER.")
    static void promise17_counters() {
        range("idle(c)", Halls.SOME, NO_SUCH, 0, 1, (x, c) -> x.idle(c));
        range("idle(c), full", Halls.FULL, NO_SUCH, 0, 3, (x, c) -> x.idle(c));
        refused("idle(0), empty", NO_SUCH, Halls.EMPTY, x -> x.idle(0));
    }

    @Says({"IDLE minutes of a COUNTER.", "if there is none, it is IDLE for that minute."})
    static void promise17_allAndNone() {
        NumbersCalled x = Halls.one();
        is("idle(0), nobody", x.idle(0), 240);
        Due.law(x, LONG);
        Halls.pull(x, 3, 0, 10, 0);
        is("idle(0), busy till 180", x.idle(0), 60);
        x.pull(0, 10, 0);
        is("idle(0), busy all day", x.idle(0), 0);
        x.pull(0, 10, 0);
        is("idle(0), one waits yet", x.idle(0), 0);
    }

    @Says("each that is not busy and has no BREAK")
    static void promise17_aBreakIsNotIdle() {
        NumbersCalled x = Halls.one();
        int[] breaks = {-1, 0, 1, 118, 119};
        for (int b : breaks) {
            x.change(0, 2, b);
            is("idle(0), break " + b, x.idle(0), b < 0 ? 240 : 230);
        }
        // busy 5 minutes of it
        x.pull(0, 100, 0);
        x.change(0, 2, 5);
        is("idle(0), busy in its break", x.idle(0), 240 - 15);
    }

    @Says("the COUNTER is busy for that minute")
    static void promise17_oneWhoIsNotThere() {
        NumbersCalled x = off(7, 9);
        x.set(1, 9);
        is("idle(0), nine calls", x.idle(0), 240 - 9 - 9);
        x.set(1, 1);
        is("idle(0), one call", x.idle(0), 240 - 9 - 1);
    }

    @Says("What is asked changes nothing, but where it is told.")
    static void promise17_asksOnly() {
        changesNothing("idle(1)", Halls.SOME, x -> x.idle(1));
    }

    // ---- promise 18

    @Says({"HARM.", "HARM of a DAY: all WAITS of those, and 60 for each other one."})
    static void promise18_nobodyAndSixteen() {
        NumbersCalled x = new NumbersCalled();
        is("harmed(), nobody", x.harmed(), 0);
        for (int a = 0; a < 16; a++) {
            x.pull(0, 10, 50);
            is("harmed()", x.harmed(), 60 * (a + 1));
        }
        x.set(2, 50);
        is("harmed(), turned away", x.harmed(), 960);
        x.set(2, 51);
        x.counter(1, 0);
        // one by one, a minute each
        is("harmed(), all served", x.harmed(), 120);
    }

    @Says("HARM of a DAY: all WAITS of those, and 60 for each other one.")
    static void promise18_aWaitAndOneWhoIsNotServed() {
        NumbersCalled x = Halls.by("takes 60;waits base;minds wait;");
        x.pull(0, 990, 0);
        x.pull(0, 600, 0);
        is("harmed(), a wait of 60", x.harmed(), 60);
        is("sum(0)", x.sum(0), 2);
        x.forget();
        x.pull(0, 590, 0);
        is("harmed(), one is missed", x.harmed(), 60);
        is("sum(0)", x.sum(0), 1);
        x.move(1, 1);
        is("harmed(), a wait of 59", x.harmed(), 59);
    }

    @Says("What is asked changes nothing, but where it is told.")
    static void promise18_asksOnly() {
        changesNothing("harmed()", Halls.SOME, NumbersCalled::harmed);
    }
}
