/** Promises 10 to 14: the edges of askers, and of what their kinds are asked. */
final class AskerBounds extends BoundsOf {
    /** One counter of each slow 0 and 9, one of each kind with base and more; by a law. */
    private static NumbersCalled kinds(String law, int baseAndMore) {
        NumbersCalled x = new NumbersCalled();
        x.counter(1, 0);
        x.counter(1, 9);
        Due.law(x, law);
        for (int kind = 0; kind < 6; kind++) {
            x.pull(kind, baseAndMore, 0);
        }
        return x;
    }

    private static int there(NumbersCalled x, int a, int wait) {
        return x.asks(a, 0, wait, 0, 1);
    }

    private static int takes(NumbersCalled x, int a) {
        return x.asks(a, 0, 0, 0, 0);
    }

    // ---- promise 10

    @Says({"KINDS", "BAD; FULL."})
    static void promise10_kinds() {
        range("pull(kind, 10, 0)", Halls.SOME, BAD, 0, 5, (x, kind) -> x.pull(kind, 10, 0));
    }

    @Says({"(what: 1000 times LETTER, 10 times BASE, and MORE; minute: COMES)", "LETTERS 0 .. 3."})
    static void promise10_letters() {
        range("pull(0, what, 0)", Halls.SOME, BAD, 10, 3999, (x, what) -> x.pull(0, what, 0));
        for (int letter = 0; letter < 4; letter++) {
            NumbersCalled x = new NumbersCalled();
            is("pull", x.pull(0, 1000 * letter + 10, 0), 0);
            is("letter", x.told(0, 1), letter);
        }
        refused("pull of letter 4", BAD, Halls.SOME, x -> x.pull(0, 4010, 0));
    }

    @Says("of a KIND, a LETTER that is pulled, BASE (1 .. 99), MORE (0 .. 9)")
    static void promise10_baseIsOneAtLeast() {
        for (int letter = 0; letter < 4; letter++) {
            int l = letter;
            refused("base 0, more 0", BAD, Halls.SOME, x -> x.pull(0, 1000 * l, 0));
            refused("base 0, more 9", BAD, Halls.SOME, x -> x.pull(0, 1000 * l + 9, 0));
            NumbersCalled x = new NumbersCalled();
            is("base 1", x.pull(0, 1000 * letter + 10, 0), 0);
            is("base 1", x.told(0, 2), 1);
            is("more 0", x.told(0, 3), 0);
        }
    }

    @Says("BASE (1 .. 99), MORE (0 .. 9)")
    static void promise10_baseIs99AtMost() {
        for (int letter = 0; letter < 4; letter++) {
            NumbersCalled x = new NumbersCalled();
            is("base 99, more 9", x.pull(0, 1000 * letter + 999, 0), 0);
            is("letter", x.told(0, 1), letter);
            is("base", x.told(0, 2), 99);
            is("more", x.told(0, 3), 9);
        }
    }

    @Says({"(what: 1000 times LETTER, 10 times BASE, and MORE; minute: COMES)", "BAD; FULL."})
    static void promise10_belowZero() {
        for (int what : new int[] {-1, -9, -10, -11, -999, -1000, -1010, -3999}) {
            refused("pull(0, " + what + ", 0)", BAD, Halls.SOME, x -> x.pull(0, what, 0));
        }
    }

    @Says("the minute (0 .. 119) in which one COMES")
    static void promise10_minutes() {
        range("pull(0, 10, minute)", Halls.SOME, BAD, 0, 119, (x, minute) -> x.pull(0, 10, minute));
        NumbersCalled x = new NumbersCalled();
        x.pull(0, 10, 0);
        x.pull(0, 10, 119);
        is("told(0, 4)", x.told(0, 4), 0);
        is("told(1, 4)", x.told(1, 4), 119);
    }

    @Says({"An ASKER (what: 1000 times LETTER, 10 times BASE, and MORE; minute: COMES): the number.",
        "ASKERS are numbered from 0 on, 16 at most"})
    static void promise10_numbersFromZeroToFifteen() {
        NumbersCalled x = new NumbersCalled();
        for (int a = 0; a < 16; a++) {
            is("pull", x.pull(0, 10, 0), a);
        }
        is("count(4)", x.count(4), 16);
    }

    @Says({"ASKERS are numbered from 0 on, 16 at most", "BAD; FULL."})
    static void promise10_theSeventeenthIsFull() {
        refused("pull(0, 10, 0)", FULL, Halls.FULL, x -> x.pull(0, 10, 0));
        refused("pull(5, 3999, 119)", FULL, Halls.FULL, x -> x.pull(5, 3999, 119));
    }

    @Says("BAD; FULL.")
    static void promise10_badComesAheadOfFull() {
        refused("kind 6", BAD, Halls.FULL, x -> x.pull(6, 10, 0));
        refused("kind -1", BAD, Halls.FULL, x -> x.pull(-1, 10, 0));
        refused("base 0", BAD, Halls.FULL, x -> x.pull(0, 9, 0));
        refused("letter 4", BAD, Halls.FULL, x -> x.pull(0, 4010, 0));
        refused("minute 120", BAD, Halls.FULL, x -> x.pull(0, 10, 120));
        refused("minute -1", BAD, Halls.FULL, x -> x.pull(0, 10, -1));
    }

    // ---- promise 11

    @Says("-5: no such ASKER; -7: minute.")
    static void promise11_askers() {
        range("move(a, 5)", Halls.SOME, NO_SUCH, 0, 2, (x, a) -> x.move(a, 5));
        range("move(a, 5), full", Halls.FULL, NO_SUCH, 0, 15, (x, a) -> x.move(a, 5));
        refused("move(0, 5), empty", NO_SUCH, Halls.EMPTY, x -> x.move(0, 5));
    }

    @Says({"the minute (0 .. 119) in which one COMES", "-5: no such ASKER; -7: minute."})
    static void promise11_minutes() {
        range("move(1, minute)", Halls.SOME, NOT_SO, 0, 119, (x, minute) -> x.move(1, minute));
    }

    @Says("One COMES in another minute: when one did.")
    static void promise11_tellsWhenOneDid() {
        NumbersCalled x = Halls.SOME.make();
        is("move(1, 119)", x.move(1, 119), 9);
        is("move(1, 0)", x.move(1, 0), 119);
        is("move(1, 0) again", x.move(1, 0), 0);
        is("told(1, 4)", x.told(1, 4), 0);
        is("told(0, 4)", x.told(0, 4), 7);
    }

    @Says("-5: no such ASKER; -7: minute.")
    static void promise11_noSuchAskerComesFirst() {
        refused("move(3, 120)", NO_SUCH, Halls.SOME, x -> x.move(3, 120));
        refused("move(-1, -1)", NO_SUCH, Halls.SOME, x -> x.move(-1, -1));
    }

    // ---- promise 12

    @Says("STATE: there is none.")
    static void promise12_nobodyIsThere() {
        refused("forget(), empty", STATE, Halls.EMPTY, NumbersCalled::forget);
        refused("forget(), one counter", STATE, Halls::one, NumbersCalled::forget);
    }

    @Says({"The latest ASKER is none any more", "how many there are."})
    static void promise12_fromSixteenToNone() {
        NumbersCalled x = Halls.FULL.make();
        for (int left = 15; left >= 0; left--) {
            is("forget()", x.forget(), left);
            is("count(4)", x.count(4), left);
            is("told of it", x.told(left, 0), NO_SUCH);
        }
        is("forget(), none", x.forget(), STATE);
        is("count(4)", x.count(4), 0);
    }

    @Says("The latest ASKER is none any more")
    static void promise12_theNumberIsTakenAgain() {
        NumbersCalled x = Halls.FULL.make();
        x.forget();
        is("pull", x.pull(4, 3123, 45), 15);
        int[] want = {4, 3, 12, 3, 45, 3};
        for (int what = 0; what < 6; what++) {
            is("told(15, " + what + ")", x.told(15, what), want[what]);
        }
        is("pull, full", x.pull(0, 10, 0), FULL);
    }

    @Says("(nor is there an IMAGE that has that one)")
    static void promise12_anImageThatHasTheLatest() {
        NumbersCalled x = Halls.SOME.make();
        is("forget()", x.forget(), 2);
        is("back()", x.back(), STATE);
        x.pull(0, 10, 0);
        is("back(), one of that number is there", x.back(), STATE);
    }

    @Says("(nor is there an IMAGE that has that one)")
    static void promise12_anImageWithoutTheLatest() {
        NumbersCalled x = Halls.SOME.make();
        x.pull(0, 10, 0);
        is("forget()", x.forget(), 3);
        is("back()", x.back(), 3);
        is("forget()", x.forget(), 2);
        is("back()", x.back(), STATE);
    }

    @Says("(nor is there an IMAGE that has that one)")
    static void promise12_anImageOfNone() {
        NumbersCalled x = new NumbersCalled();
        x.image();
        x.pull(0, 10, 0);
        is("forget()", x.forget(), 0);
        is("forget(), refused", x.forget(), STATE);
        is("back()", x.back(), 0);
    }

    // ---- promise 13

    @Says("-5: no such ASKER; -7: what.")
    static void promise13_askers() {
        range("told(a, 0)", Halls.SOME, NO_SUCH, 0, 2, (x, a) -> x.told(a, 0));
        range("told(a, 0), full", Halls.FULL, NO_SUCH, 0, 15, (x, a) -> x.told(a, 0));
        refused("told(0, 0), empty", NO_SUCH, Halls.EMPTY, x -> x.told(0, 0));
    }

    @Says({"Of an ASKER what 0 KIND, 1 LETTER, 2 BASE, 3 MORE, 4 COMES, 5 the LETTER one NEEDS.",
        "-5: no such ASKER; -7: what."})
    static void promise13_whats() {
        range("told(1, what)", Halls.SOME, NOT_SO, 0, 5, (x, what) -> x.told(1, what));
        NumbersCalled x = new NumbersCalled();
        x.pull(5, 3999, 119);
        int[] want = {5, 3, 99, 9, 119, 3};
        for (int what = 0; what < 6; what++) {
            is("told(0, " + what + ")", x.told(0, what), want[what]);
        }
    }

    @Says("-5: no such ASKER; -7: what.")
    static void promise13_noSuchAskerComesFirst() {
        refused("told(3, 6)", NO_SUCH, Halls.SOME, x -> x.told(3, 6));
        refused("told(-1, -1)", NO_SUCH, Halls.SOME, x -> x.told(-1, -1));
    }

    @Says({"2 WRONG (an ASKER): NEEDS the LETTER behind it (0 behind 3).", "3 BACK (a WRONG): NEEDS the one that is pulled",
        "which LETTER one NEEDS", "the one that is pulled;", "(Whatever isn't told is as of the KIND above.)"})
    static void promise13_needs() {
        for (int kind = 0; kind < 6; kind++) {
            for (int letter = 0; letter < 4; letter++) {
                NumbersCalled x = new NumbersCalled();
                x.pull(kind, 1000 * letter + 10, 0);
                is("kind " + kind + " needs", x.told(0, 5), kind != 2 ? letter : letter == 3 ? 0 : letter + 1);
            }
        }
    }

    @Says("What is asked changes nothing, but where it is told.")
    static void promise13_asksOnly() {
        changesNothing("told(1, 5)", Halls.SOME, x -> x.told(1, 5));
    }

    // ---- promise 14: refusals

    @Says({"Of an ASKER at a COUNTER, so many minutes behind coming, so much having been said (0 .. 999 both)",
        "-5: ASKER, COUNTER; -7: wait, said, what."})
    static void promise14_askersAndCounters() {
        range("asks(a, 0, ..)", Halls.SOME, NO_SUCH, 0, 2, (x, a) -> x.asks(a, 0, 0, 0, 0));
        range("asks(0, c, ..)", Halls.SOME, NO_SUCH, 0, 1, (x, c) -> x.asks(0, c, 0, 0, 0));
        range("asks(a, 3, ..), full", Halls.FULL, NO_SUCH, 0, 15, (x, a) -> x.asks(a, 3, 0, 0, 0));
        range("asks(15, c, ..), full", Halls.FULL, NO_SUCH, 0, 3, (x, c) -> x.asks(15, c, 0, 0, 0));
        refused("asks, empty", NO_SUCH, Halls.EMPTY, x -> x.asks(0, 0, 0, 0, 0));
        refused("asks, no asker", NO_SUCH, Halls::one, x -> x.asks(0, 0, 0, 0, 0));
    }

    @Says({"so much having been said (0 .. 999 both)", "-5: ASKER, COUNTER; -7: wait, said, what."})
    static void promise14_waitAndSaid() {
        for (int what = 0; what < 3; what++) {
            int w = what;
            range("asks(0, 0, wait, 0, " + what + ")", Halls.SOME, NOT_SO, 0, 999, (x, v) -> x.asks(0, 0, v, 0, w));
            range("asks(0, 0, 0, said, " + what + ")", Halls.SOME, NOT_SO, 0, 999, (x, v) -> x.asks(0, 0, 0, v, w));
        }
    }

    @Says({"what 0 how long one TAKES, 1 whether one is THERE (1, 0), 2 minds (0 .. 999, else the bound).",
        "-5: ASKER, COUNTER; -7: wait, said, what."})
    static void promise14_whats() {
        range("asks(0, 0, 0, 0, what)", Halls.SOME, NOT_SO, 0, 2, (x, what) -> x.asks(0, 0, 0, 0, what));
    }

    @Says("-5: ASKER, COUNTER; -7: wait, said, what.")
    static void promise14_noSuchComesFirst() {
        refused("asks(3, 0, -1, 0, 0)", NO_SUCH, Halls.SOME, x -> x.asks(3, 0, -1, 0, 0));
        refused("asks(0, 2, 0, 1000, 0)", NO_SUCH, Halls.SOME, x -> x.asks(0, 2, 0, 1000, 0));
        refused("asks(0, -1, 0, 0, 3)", NO_SUCH, Halls.SOME, x -> x.asks(0, -1, 0, 0, 3));
        refused("asks(-1, 2, 1000, 1000, -1)", NO_SUCH, Halls.SOME, x -> x.asks(-1, 2, 1000, 1000, -1));
    }

    @Says("What is asked changes nothing, but where it is told.")
    static void promise14_asksOnly() {
        changesNothing("asks(1, 1, 20, 5, 2)", Halls.SOME, x -> x.asks(1, 1, 20, 5, 2));
    }

    // ---- promise 14: whether one is there

    @Says({"0 ASKER: as long as these are no more than waits", "whether one is THERE, so many minutes behind coming",
        "(Whatever isn't told is as of the KIND above.)"})
    static void promise14_thereTillWaits() {
        NumbersCalled x = kinds("takes 1;waits base;minds 0;", 209);
        // an OFF and a SOLD with more 9 are there till 10, and from 22 on
        for (int a = 0; a < 5; a++) {
            boolean off = a == 1;
            is("kind " + a + " at 0", there(x, a, 0), 1);
            is("kind " + a + " at 20", there(x, a, 20), off ? 0 : 1);
            is("kind " + a + " at 21", there(x, a, 21), 0);
        }
    }

    @Says("waits (0 .. 999, else the bound)")
    static void promise14_waitsIsNotBelowZero() {
        for (String waits : new String[] {"0", "-1", "-9999", "9999*9999*9999", "2048*2048*512"}) {
            NumbersCalled x = kinds("takes 1;waits " + waits + ";minds 0;", 109);
            for (int a = 0; a < 6; a++) {
                is("waits " + waits + ", kind " + a + " at 0", there(x, a, 0), 1);
                is("waits " + waits + ", kind " + a + " at 1", there(x, a, 1), 0);
            }
        }
    }

    @Says("waits (0 .. 999, else the bound)")
    static void promise14_waitsIs999AtMost() {
        int[] waits = {998, 999, 1000, 9999};
        for (int w : waits) {
            NumbersCalled x = kinds("takes 1;waits " + w + ";minds 0;", 109);
            is("waits " + w + " at 998", there(x, 0, 998), 1);
            is("waits " + w + " at 999", there(x, 0, 999), w >= 999 ? 1 : 0);
        }
        NumbersCalled x = kinds("takes 1;waits 2048*2048*512-1;minds 0;", 109);
        is("the greatest int at 999", there(x, 0, 999), 1);
    }

    @Says("1 OFF (an ASKER): also only while these by (MORE and 2) (cut) is even.")
    static void promise14_offByMoreAndTwo() {
        for (int more = 0; more < 10; more++) {
            NumbersCalled x = kinds("takes 1;waits 999;minds 0;", 100 + more);
            int span = more + 2;
            int[] at = {0, span - 1, span, 2 * span - 1, 2 * span, 3 * span - 1, 3 * span};
            int[] want = {1, 1, 0, 0, 1, 1, 0};
            for (int i = 0; i < at.length; i++) {
                is("OFF, more " + more + " at " + at[i], there(x, 1, at[i]), want[i]);
            }
            is("OFF, more " + more + " at 999", there(x, 1, 999), 999 / span % 2 == 0 ? 1 : 0);
            is("ASKER, more " + more + " at " + span, there(x, 0, span), 1);
        }
    }

    @Says("1 OFF (an ASKER): also only while these by (MORE and 2) (cut) is even.")
    static void promise14_offNotBeyondWaits() {
        NumbersCalled x = kinds("takes 1;waits 4;minds 0;", 100);
        int[] want = {1, 1, 0, 0, 1, 0};
        for (int wait = 0; wait < want.length; wait++) {
            is("OFF, waits 4, at " + wait, there(x, 1, wait), want[wait]);
        }
    }

    @Says("5 SOLD (an OFF): from 30 minutes on always THERE.")
    static void promise14_soldFromThirtyOn() {
        // more 8: not there from 10 to 19, 30 to 39
        NumbersCalled x = kinds("takes 1;waits 999;minds 0;", 108);
        int[] at = {9, 10, 19, 20, 29, 30, 39, 40, 999};
        int[] want = {1, 0, 0, 1, 1, 1, 1, 1, 1};
        for (int i = 0; i < at.length; i++) {
            is("SOLD at " + at[i], there(x, 5, at[i]), want[i]);
        }
        is("OFF at 30", there(x, 1, 30), 0);
    }

    @Says("5 SOLD (an OFF): from 30 minutes on always THERE.")
    static void promise14_soldWhateverWaitsIs() {
        NumbersCalled x = kinds("takes 1;waits 0;minds 0;", 108);
        is("SOLD at 0", there(x, 5, 0), 1);
        is("SOLD at 1", there(x, 5, 1), 0);
        is("SOLD at 29", there(x, 5, 29), 0);
        is("SOLD at 30", there(x, 5, 30), 1);
        is("SOLD at 999", there(x, 5, 999), 1);
        is("ASKER at 30", there(x, 0, 30), 0);
    }

    // ---- promise 14: how long one takes

    @Says("takes (1 .. 60, else the bound)")
    static void promise14_takesIsOneAtLeast() {
        for (String takes : new String[] {"1", "0", "-1", "-9999", "2048*2048*512", "9999*9999*9999"}) {
            NumbersCalled x = kinds("takes " + takes + ";waits 1;minds 0;", 109);
            for (int a = 0; a < 6; a++) {
                is("takes " + takes + ", kind " + a, takes(x, a), a == 3 ? 2 : 1);
            }
        }
        is("takes 2", takes(kinds("takes 2;waits 1;minds 0;", 109), 0), 2);
    }

    @Says("takes (1 .. 60, else the bound)")
    static void promise14_takesIsSixtyAtMost() {
        for (String takes : new String[] {"60", "61", "9999", "2048*2048*512-1"}) {
            NumbersCalled x = kinds("takes " + takes + ";waits 1;minds 0;", 109);
            for (int a = 0; a < 6; a++) {
                is("takes " + takes + ", kind " + a, takes(x, a), 60);
            }
        }
        is("takes 59", takes(kinds("takes 59;waits 1;minds 0;", 109), 0), 59);
    }

    @Says({"TAKES twice as long (60 at most).", "how many minutes one TAKES"})
    static void promise14_backTakesTwiceSixtyAtMost() {
        int[] takes = {1, 2, 29, 30, 31, 60, 61};
        int[] want = {2, 4, 58, 60, 60, 60, 60};
        for (int i = 0; i < takes.length; i++) {
            NumbersCalled x = kinds("takes " + takes[i] + ";waits 1;minds 0;", 109);
            is("BACK, takes " + takes[i], takes(x, 3), want[i]);
            is("WRONG, takes " + takes[i], takes(x, 2), Math.min(60, takes[i]));
        }
    }

    @Says({"slow: of takes SLOW of the COUNTER, else 0", "said: of minds what was said, else 0",
        "wait: minutes behind coming", "letter: the one that is pulled", "of an ASKER: base, more: its own"})
    static void promise14_namesAtTheirEdges() {
        NumbersCalled x = kinds("takes slow + said + 1;waits slow + said;minds slow + said;", 999);
        is("TAKES at slow 0", x.asks(0, 0, 0, 999, 0), 1);
        is("TAKES at slow 9", x.asks(0, 1, 0, 999, 0), 10);
        is("THERE at 0", x.asks(0, 1, 0, 999, 1), 1);
        is("THERE at 1", x.asks(0, 1, 1, 999, 1), 0);
        is("minds 0", x.asks(0, 1, 999, 0, 2), 0);
        is("minds 999", x.asks(0, 1, 0, 999, 2), 999);
        NumbersCalled w = kinds("takes slow * 100 + said + 5;waits 3 + slow * 100 + said;minds slow * 100 + said + 3;", 999);
        is("TAKES 5", w.asks(0, 0, 0, 999, 0), 5);
        is("THERE at 3", w.asks(0, 1, 3, 999, 1), 1);
        is("THERE at 4", w.asks(0, 1, 4, 999, 1), 0);
        is("minds 3 + 7", w.asks(0, 1, 0, 7, 2), 10);
        NumbersCalled y = kinds("takes wait - 940;waits wait;minds wait;", 999);
        is("TAKES at wait 999", y.asks(0, 0, 999, 0, 0), 59);
        is("THERE at wait 999", y.asks(0, 0, 999, 0, 1), 1);
        is("minds at wait 999", y.asks(0, 0, 999, 0, 2), 999);
        NumbersCalled z = kinds("takes base - 40 + more - 9;waits letter;minds base * 10 + more;", 3999);
        is("TAKES by base 99, more 9", z.asks(2, 0, 0, 0, 0), 59);
        is("THERE at letter 3", z.asks(2, 0, 3, 0, 1), 1);
        is("THERE at letter 3 and 1", z.asks(2, 0, 4, 0, 1), 0);
        is("minds 999", z.asks(2, 0, 0, 0, 2), 999);
    }

    // ---- promise 14: how it is minded

    @Says("2 minds (0 .. 999, else the bound).")
    static void promise14_mindsIsZeroTo999() {
        String[] minds = {"0", "-1", "2048*2048*512", "998", "999", "1000", "9999", "2048*2048*512-1"};
        int[] want = {0, 0, 0, 998, 999, 999, 999, 999};
        for (int i = 0; i < minds.length; i++) {
            NumbersCalled x = kinds("takes 1;waits 1;minds " + minds[i] + ";", 109);
            is("minds " + minds[i], x.asks(0, 0, 5, 5, 2), want[i]);
        }
    }
}
