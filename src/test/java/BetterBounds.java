/** Promises 19 to 25: the edges of what would be better. */
final class BetterBounds extends BoundsOf {
    // ---- promise 19

    @Says("-5: no such COUNTER; -7: what.")
    static void promise19_counters() {
        range("letter(c, 1)", Halls.SOME, NO_SUCH, 0, 1, (x, c) -> x.letter(c, 1));
        range("letter(c, 1), full", Halls.FULL, NO_SUCH, 0, 3, (x, c) -> x.letter(c, 1));
        refused("letter(0, 1), empty", NO_SUCH, Halls.EMPTY, x -> x.letter(0, 1));
    }

    @Says("-5: no such COUNTER; -7: what.")
    static void promise19_whats() {
        range("letter(0, what)", Halls.SOME, NOT_SO, 0, 1, (x, what) -> x.letter(0, what));
    }

    @Says("-5: no such COUNTER; -7: what.")
    static void promise19_noSuchCounterComesFirst() {
        refused("letter(2, 2)", NO_SUCH, Halls.SOME, x -> x.letter(2, 2));
        refused("letter(-1, -1)", NO_SUCH, Halls.SOME, x -> x.letter(-1, -1));
    }

    @Says("of several the first one told (a -1 that is an answer comes behind the refusal of a number)")
    static void promise19_minusOneComesLast() {
        NumbersCalled x = Halls.one();
        is("letter(1, 0), none", x.letter(1, 0), NO_SUCH);
        is("letter(0, 2), none", x.letter(0, 2), NOT_SO);
        is("letter(0, 0), none", x.letter(0, 0), -1);
    }

    @Says("The LETTER by which, did a COUNTER do it too, HARM is least, if less than it is")
    static void promise19_lessByOneAndNotLess() {
        // sent on at 0, served by counter 0 at 1
        NumbersCalled x = new NumbersCalled();
        x.counter(2, 0);
        x.counter(1, 0);
        x.pull(2, 100, 0);
        both("letter(0), less by 1", x, (y, what) -> y.letter(0, what), 0, 0);
        both("letter(1), less by 1", x, (y, what) -> y.letter(1, what), 1, 0);
        x.change(1, 0, 3);
        both("letter(0), as it is", x, (y, what) -> y.letter(0, what), -1, 0);
    }

    @Says("of like ones the first (what 0; -1), HARM then (1; what it is).")
    static void promise19_noneIsLess() {
        NumbersCalled x = Halls.one();
        both("letter(0), nobody", x, (y, what) -> y.letter(0, what), -1, 0);
        Halls.pull(x, 2, 0, 100, 0);
        both("letter(0), one who waits", x, (y, what) -> y.letter(0, what), -1, 10);
        x.change(0, 0, 15);
        both("letter(0), it does all", x, (y, what) -> y.letter(0, what), -1, 10);
        x.set(2, 0);
        both("letter(0), all are turned away", x, (y, what) -> y.letter(0, what), -1, 120);
    }

    @Says({"LETTERS 0 .. 3.", "of like ones the first (what 0; -1), HARM then (1; what it is)."})
    static void promise19_firstAndLastLetter() {
        for (int letter = 0; letter < 4; letter++) {
            NumbersCalled x = new NumbersCalled();
            x.counter(15 - (1 << letter), 0);
            x.pull(0, 1000 * letter + 10, 0);
            both("letter(0)", x, (y, what) -> y.letter(0, what), letter, 0);
        }
        NumbersCalled x = new NumbersCalled();
        x.counter(0, 0);
        x.pull(0, 3010, 0);
        x.pull(0, 2010, 60);
        both("letter(0), like ones", x, (y, what) -> y.letter(0, what), 2, 60);
    }

    @Says("HARM is least, if less than it is")
    static void promise19_worseIsNotTold() {
        // by letter 0 too it serves one for 60 minutes, and two of letter 1 are missed
        NumbersCalled x = new NumbersCalled();
        x.counter(2, 0);
        x.counter(1, 0);
        Due.law(x, "takes 60 * (letter = 0) + 1;waits 9;minds 1;");
        x.pull(0, 10, 0);
        Halls.pull(x, 2, 0, 1010, 1);
        both("letter(0)", x, (y, what) -> y.letter(0, what), -1, 1);
    }

    @Says("What is asked changes nothing, but where it is told.")
    static void promise19_asksOnly() {
        changesNothing("letter(1, 0)", Halls.SOME, x -> x.letter(1, 0));
        changesNothing("letter(0, 1)", Halls.SOME, x -> x.letter(0, 1));
    }

    // ---- promise 20

    @Says({"the longest WAIT is no more than most (0 .. 999)", "BAD."})
    static void promise20_most() {
        range("train(most, 0)", Halls.SOME, BAD, 0, 999, (x, most) -> x.train(most, 0));
        range("train(most, 1)", Halls.SOME, BAD, 0, 999, (x, most) -> x.train(most, 1));
    }

    @Says("BAD.")
    static void promise20_whats() {
        range("train(999, what)", Halls.SOME, BAD, 0, 1, (x, what) -> x.train(999, what));
    }

    @Says("the longest WAIT is no more than most (0 .. 999), and all are SERVED (what 0; -1: not by 2), which (1; -1: none)")
    static void promise20_noMoreThanMost() {
        NumbersCalled x = Halls.one();
        x.counter(2, 0);
        Halls.pull(x, 2, 0, 100, 0);
        both("train(10)", x, (y, what) -> y.train(10, what), 0, -1);
        both("train(9)", x, (y, what) -> y.train(9, what), 1, 10);
        both("train(0)", x, (y, what) -> y.train(0, what), 1, 10);
    }

    @Says({"The fewest (0, 1, 2) LETTERS more at COUNTERS by which", "and all are SERVED (what 0; -1: not by 2), which (1; -1: none)"})
    static void promise20_noneOneTwoAndMore() {
        NumbersCalled x = new NumbersCalled();
        both("train(0), nobody", x, (y, what) -> y.train(0, what), 0, -1);
        x.counter(0, 0);
        both("train(0), nobody, one counter", x, (y, what) -> y.train(0, what), 0, -1);
        x.pull(0, 1010, 0);
        both("train(0), one letter", x, (y, what) -> y.train(0, what), 1, 1);
        x.pull(0, 3010, 1);
        both("train(0), two letters", x, (y, what) -> y.train(0, what), 2, 103);
        x.pull(0, 2010, 2);
        both("train(999), three letters", x, (y, what) -> y.train(999, what), -1, -1);
    }

    @Says("of several the first one told (a -1 that is an answer comes behind the refusal of a number)")
    static void promise20_minusOneComesLast() {
        NumbersCalled x = new NumbersCalled();
        x.pull(0, 10, 0);
        is("train(0, 2), not by 2", x.train(0, 2), BAD);
        is("train(0, -1), not by 2", x.train(0, -1), BAD);
        is("train(1000, 0), not by 2", x.train(1000, 0), BAD);
        is("train(-1, 1), not by 2", x.train(-1, 1), BAD);
        is("train(0, 0), not by 2", x.train(0, 0), -1);
        x.forget();
        is("train(0, 2), none", x.train(0, 2), BAD);
        is("train(0, 1), none", x.train(0, 1), -1);
    }

    @Says("and all are SERVED (what 0; -1: not by 2)")
    static void promise20_noCounters() {
        NumbersCalled x = new NumbersCalled();
        x.pull(0, 10, 0);
        both("train(999)", x, (y, what) -> y.train(999, what), -1, -1);
    }

    @Says("and all are SERVED (what 0; -1: not by 2)")
    static void promise20_turnedAwayIsNotServed() {
        NumbersCalled x = Halls.one();
        x.pull(0, 10, 50);
        x.set(2, 51);
        both("train(0), stop 51", x, (y, what) -> y.train(0, what), 0, -1);
        x.set(2, 50);
        both("train(999), stop 50", x, (y, what) -> y.train(999, what), -1, -1);
    }

    @Says({"10 times the COUNTER, and the LETTER; of two the lesser one's 100 times, and the other one's;",
        "of like ones the first, by the lesser, then the other one."})
    static void promise20_theFirstAndTheLastLetters() {
        // counter c alone can do it: all others have a break
        for (int c = 0; c < 4; c++) {
            NumbersCalled x = new NumbersCalled();
            for (int other = 0; other < 4; other++) {
                x.counter(0, 0);
                x.change(other, 2, other == c ? -1 : 0);
            }
            for (int letter = 0; letter < 4; letter++) {
                x.pull(0, 1000 * letter + 10, 0);
                both("train(0), one", x, (y, what) -> y.train(0, what), 1, 10 * c + letter);
                x.forget();
            }
            x.pull(0, 2010, 0);
            x.pull(0, 3010, 1);
            both("train(0), two", x, (y, what) -> y.train(0, what), 2, (10 * c + 2) * 100 + 10 * c + 3);
        }
    }

    @Says("of two the lesser one's 100 times, and the other one's; of like ones the first, by the lesser, then the other one.")
    static void promise20_twoOfCounterZero() {
        NumbersCalled x = new NumbersCalled();
        x.counter(0, 0);
        x.counter(0, 0);
        x.pull(0, 10, 0);
        x.pull(0, 1010, 5);
        both("train(0): 00 and 01", x, (y, what) -> y.train(0, what), 2, 1);
        x.move(1, 0);
        both("train(0): 00 and 11", x, (y, what) -> y.train(0, what), 2, 11);
        x.change(0, 2, 0);
        both("train(0): not by 2", x, (y, what) -> y.train(0, what), -1, -1);
        both("train(1): 10 and 11", x, (y, what) -> y.train(1, what), 2, 1011);
    }

    @Says("What is asked changes nothing, but where it is told.")
    static void promise20_asksOnly() {
        changesNothing("train(0, 0)", Halls.SOME, x -> x.train(0, 0));
        changesNothing("train(0, 1)", Halls.SOME, x -> x.train(0, 1));
    }

    // ---- promise 21

    @Says("-5: no such COUNTER; -7: what.")
    static void promise21_counters() {
        range("rest(c, 1)", Halls.SOME, NO_SUCH, 0, 1, (x, c) -> x.rest(c, 1));
        range("rest(c, 1), full", Halls.FULL, NO_SUCH, 0, 3, (x, c) -> x.rest(c, 1));
        refused("rest(0, 1), empty", NO_SUCH, Halls.EMPTY, x -> x.rest(0, 1));
    }

    @Says("-5: no such COUNTER; -7: what.")
    static void promise21_whats() {
        range("rest(0, what)", Halls.SOME, NOT_SO, 0, 1, (x, what) -> x.rest(0, what));
    }

    @Says("-5: no such COUNTER; -7: what.")
    static void promise21_noSuchCounterComesFirst() {
        refused("rest(2, 2)", NO_SUCH, Halls.SOME, x -> x.rest(2, 2));
        refused("rest(-1, -1)", NO_SUCH, Halls.SOME, x -> x.rest(-1, -1));
    }

    @Says("The minute (0, 10, .. 110) in which, did a COUNTER's BREAK begin then, HARM is least, of like ones the first (what 0), HARM then (1).")
    static void promise21_likeOnesTheFirst() {
        NumbersCalled x = Halls.one();
        both("rest(0), nobody", x, (y, what) -> y.rest(0, what), 0, 0);
        x.pull(0, 100, 0);
        both("rest(0), one at 0", x, (y, what) -> y.rest(0, what), 10, 0);
        x.move(0, 119);
        both("rest(0), one at 119", x, (y, what) -> y.rest(0, what), 0, 0);
    }

    @Says("The minute (0, 10, .. 110) in which")
    static void promise21_theLastIs110() {
        // one every ten minutes, for ten minutes, till 109: the break at 110 harms nobody
        NumbersCalled x = Halls.by("takes 10;waits 999;minds 1;");
        for (int minute = 0; minute <= 100; minute += 10) {
            x.pull(0, 100, minute);
        }
        both("rest(0), busy till 110", x, (y, what) -> y.rest(0, what), 110, 0);
        x.pull(0, 100, 110);
        both("rest(0), busy till 120", x, (y, what) -> y.rest(0, what), 110, 10);
        x.move(11, 119);
        both("rest(0), one at 119", x, (y, what) -> y.rest(0, what), 110, 1);
    }

    @Says("The minute (0, 10, .. 110) in which")
    static void promise21_onlyTens() {
        // one at 0, at 19, 29 .. 119: a break at 1 .. 9 would harm nobody
        NumbersCalled x = Halls.one();
        x.pull(0, 10, 0);
        for (int minute = 19; minute < 120; minute += 10) {
            x.pull(0, 10, minute);
        }
        both("rest(0)", x, (y, what) -> y.rest(0, what), 10, 1);
    }

    @Says("did a COUNTER's BREAK begin then")
    static void promise21_theBreakThatItHasIsNone() {
        NumbersCalled x = Halls.one();
        x.pull(0, 100, 0);
        for (int b : new int[] {0, 5, 119}) {
            x.change(0, 2, b);
            both("rest(0), break at " + b, x, (y, what) -> y.rest(0, what), 10, 0);
        }
    }

    @Says("What is asked changes nothing, but where it is told.")
    static void promise21_asksOnly() {
        changesNothing("rest(1, 0)", Halls.SOME, x -> x.rest(1, 0));
    }

    // ---- promise 22

    @Says({"is no later than by (0 .. 999), and nobody waits yet; -1: none.", "BAD."})
    static void promise22_by() {
        range("stop(by)", Halls.SOME, BAD, 0, 999, (x, by) -> x.stop(by));
    }

    @Says("The latest STOP (0 .. 120) by which")
    static void promise22_theLatestIs120() {
        is("stop(0), nobody", new NumbersCalled().stop(0), 120);
        NumbersCalled x = Halls.one();
        x.pull(0, 10, 119);
        is("stop(120): all", x.stop(120), 120);
        is("stop(119): none comes", x.stop(119), 119);
        x.set(2, 0);
        is("stop(120), whatever STOP is", x.stop(120), 120);
    }

    @Says({"The latest STOP (0 .. 120) by which", "-1: none."})
    static void promise22_theLeastIsZero() {
        NumbersCalled x = Halls.one();
        x.pull(0, 10, 0);
        is("stop(1)", x.stop(1), 120);
        is("stop(0)", x.stop(0), 0);
        x.move(0, 1);
        is("stop(0), one at 1", x.stop(0), 1);
        x.pull(0, 1010, 0);
        is("stop(999), one would wait yet", x.stop(999), 0);
    }

    @Says("the latest end is no later than by (0 .. 999)")
    static void promise22_noLaterThanBy() {
        NumbersCalled x = Halls.by("takes 60;waits 999;minds 1;");
        Halls.pull(x, 2, 0, 10, 119);
        x.pull(0, 10, 118);
        is("stop(298): to 118, 178, 238", x.stop(298), 120);
        is("stop(297)", x.stop(297), 119);
        is("stop(178)", x.stop(178), 119);
        is("stop(177)", x.stop(177), 118);
    }

    @Says("and nobody waits yet; -1: none.")
    static void promise22_nobodyWaitsYet() {
        NumbersCalled x = Halls.by("takes 60;waits 999;minds 1;");
        Halls.pull(x, 3, 0, 10, 119);
        is("stop(299), three at 119", x.stop(299), 120);
        x.pull(0, 10, 119);
        is("stop(999), four at 119", x.stop(999), 119);
        // missed is not waiting
        Due.law(x, "takes 60;waits 59;minds 1;");
        is("stop(179), three are missed", x.stop(179), 120);
        is("stop(178)", x.stop(178), 119);
    }

    @Says("What is asked changes nothing, but where it is told.")
    static void promise22_asksOnly() {
        changesNothing("stop(0)", Halls.SOME, x -> x.stop(0));
        changesNothing("stop(999)", Halls.SOME, x -> x.stop(999));
    }

    // ---- promise 23

    @Says("BAD.")
    static void promise23_whats() {
        range("call(what)", Halls.SOME, BAD, 0, 1, (x, what) -> x.call(what));
    }

    @Says("How often to be CALLED (1 .. 9) so that HARM is least, of like ones the fewest (what 0), HARM then (1).")
    static void promise23_theFewestIsOne() {
        both("call, nobody", new NumbersCalled(), (y, what) -> y.call(what), 1, 0);
        NumbersCalled x = Halls.one();
        x.pull(0, 10, 0);
        x.set(1, 9);
        both("call, one", x, (y, what) -> y.call(what), 1, 0);
    }

    @Says("How often to be CALLED (1 .. 9) so that HARM is least")
    static void promise23_theMostIsNine() {
        // an OFF comes at 0, busy till 8: with more 6 it is away till 15, called at 8 .. 16
        NumbersCalled x = Halls.by("takes base;waits 999;minds 1;");
        x.pull(0, 80, 0);
        x.pull(1, 16, 0);
        both("call, eight are in vain", x, (y, what) -> y.call(what), 9, 16);
        // with more 7 and busy till 9: called at 9 .. 17, away till 17
        NumbersCalled z = Halls.by("takes base;waits 999;minds 1;");
        z.pull(0, 90, 0);
        z.pull(1, 17, 0);
        both("call, nine are in vain", z, (y, what) -> y.call(what), 1, 60);
    }

    @Says("What is asked changes nothing, but where it is told.")
    static void promise23_asksOnly() {
        changesNothing("call(0)", Halls.SOME, x -> x.call(0));
    }

    // ---- promise 24

    @Says({"All WAITS by WHO 1, 2, 3 less those by WHO 0", "BAD."})
    static void promise24_by() {
        range("pay(by)", Halls.SOME, BAD, 1, 3, (x, by) -> x.pay(by));
    }

    @Says("of all who are not OLD (by 1), of all (2), of all but BACKS (3).")
    static void promise24_nobodyAndOnlyThose() {
        for (int by = 1; by <= 3; by++) {
            is("pay(" + by + "), nobody", new NumbersCalled().pay(by), 0);
        }
        int[] kinds = {4, 0, 3};
        for (int by = 1; by <= 3; by++) {
            NumbersCalled x = Halls.one();
            Halls.pull(x, 3, kinds[by - 1], 100, 0);
            is("pay(" + by + "), only those", x.pay(by), 0);
        }
    }

    @Says("of all who are not OLD (by 1), of all (2), of all but BACKS (3).")
    static void promise24_whoPaysAndWhoGains() {
        // by WHO 0 the first waits 0, the other one 20; else the first waits 10, 10, 20, the other one 0
        int[] kinds = {4, 0, 3};
        int[] want = {10, 10 - 20, 20};
        for (int by = 1; by <= 3; by++) {
            NumbersCalled x = Halls.one();
            x.pull(0, 200, 0);
            x.pull(kinds[by - 1], 100, 0);
            is("pay(" + by + ")", x.pay(by), want[by - 1]);
            is("of(1, 4), as it is", x.of(1, 4), 20);
        }
    }

    @Says("All WAITS by WHO 1, 2, 3 less those by WHO 0")
    static void promise24_whoeverIsFirst() {
        NumbersCalled x = Halls.one();
        x.pull(0, 200, 0);
        x.pull(4, 100, 0);
        for (int who = 0; who < 4; who++) {
            x.set(0, who);
            is("pay(1), who " + who, x.pay(1), 10);
            is("pay(2), who " + who, x.pay(2), -10);
            is("pay(3), who " + who, x.pay(3), 0);
        }
    }

    @Says("What is asked changes nothing, but where it is told.")
    static void promise24_asksOnly() {
        changesNothing("pay(1)", Halls.SOME, x -> x.pay(1));
        changesNothing("pay(2)", Halls.SOME, x -> x.pay(2));
        changesNothing("pay(3)", Halls.SOME, x -> x.pay(3));
    }

    // ---- promise 25

    @Says("BAD.")
    static void promise25_whats() {
        range("door(what)", Halls.SOME, BAD, 0, 1, (x, what) -> x.door(what));
        is("door(0), nobody", new NumbersCalled().door(0), 0);
        is("door(1), nobody", new NumbersCalled().door(1), 0);
    }

    @Says({"if what 0 BACKS TAKE no longer than a WRONG,", "HARM as it is, less HARM then."})
    static void promise25_sixtyAtMost() {
        int[] takes = {1, 30, 31, 59, 60, 61};
        int[] less = {1, 30, 29, 1, 0, 0};
        for (int i = 0; i < takes.length; i++) {
            NumbersCalled x = Halls.by("takes " + takes[i] + ";waits 999;minds 1;");
            x.pull(3, 10, 0);
            x.pull(0, 10, 0);
            is("door(0), takes " + takes[i], x.door(0), less[i]);
        }
    }

    @Says("1 all pull the LETTER that they NEED (letter of the texts stays as it is)")
    static void promise25_behindThreeIsZero() {
        NumbersCalled x = new NumbersCalled();
        x.counter(1, 0);
        x.counter(8, 0);
        Due.law(x, "takes 1 + letter;waits 999;minds 1;");
        x.pull(2, 3010, 0);
        x.pull(0, 10, 0);
        // as it is: sent on at 0, by counter 0 at 1; then: at 0 for 4 minutes, the other one at 4
        is("harmed()", x.harmed(), 1);
        is("door(1)", x.door(1), 1 - 4);
    }

    @Says("How much less HARM is (below 0: more)")
    static void promise25_oneIsServedOneIsMissed() {
        // nobody does letter 0: one who pulls 0 and needs 1 is in nobody's way
        NumbersCalled x = new NumbersCalled();
        x.counter(2, 0);
        Due.law(x, "takes 60;waits 59;minds 1;");
        x.pull(2, 10, 0);
        is("harmed()", x.harmed(), 60);
        is("door(1): 60 less", x.door(1), 60);
        Halls.pull(x, 1, 0, 1010, 0);
        is("door(1): the other one is missed then", x.door(1), 0);
        x.move(1, 1);
        is("door(1): the other one waits 59", x.door(1), 60 - 59);
        x.move(1, 60);
        is("door(1), both", x.door(1), 60);
    }

    @Says("What is asked changes nothing, but where it is told.")
    static void promise25_asksOnly() {
        changesNothing("door(0)", Halls.SOME, x -> x.door(0));
        changesNothing("door(1)", Halls.SOME, x -> x.door(1));
    }
}
