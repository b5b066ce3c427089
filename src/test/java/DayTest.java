/** Promises 15 to 18 and Terms 2: a day, worked out by hand. */
public final class DayTest {
    private static final Due due = new Due("DayTest");

    public static void main(String[] args) {
        oneByOne();
        aBreak();
        turnedAway();
        notThere();
        patience();
        theWrongLetter();
        calledTwiceInAMinute();
        first();
        likeOnes();
        theEndOfTheDay();
        missedBehindTheWrongLetter();
        aheadWhoeverComesFirst();
        theLawOfADay();
        eachCallLivesItsDay();
        refusals();
        due.end();
    }

    /** begin, end, counter; a begin of -1 is one who isn't served. */
    private static void served(String day, NumbersCalled x, int a, int begin, int end, int c, int times) {
        int wait = begin < 0 ? -1 : begin - x.told(a, 4);
        int[] want = {2, begin, end, c, wait, times};
        for (int what = 0; what < 6; what++) {
            due.is(day + ": of(" + a + ", " + what + ")", x.of(a, what), want[what]);
        }
    }

    private static void lost(String day, NumbersCalled x, int a, int fate, int times) {
        int[] want = {fate, -1, -1, -1, -1, times};
        for (int what = 0; what < 6; what++) {
            due.is(day + ": of(" + a + ", " + what + ")", x.of(a, what), want[what]);
        }
    }

    private static void sums(String day, NumbersCalled x, int... want) {
        for (int what = 0; what < 8; what++) {
            due.is(day + ": sum(" + what + ")", x.sum(what), want[what]);
        }
        int harm = want[1] + 60 * (x.count(4) - want[0]);
        due.is(day + ": harmed()", x.harmed(), harm);
    }

    private static NumbersCalled three() {
        NumbersCalled x = new NumbersCalled();
        x.counter(1, 0);
        x.pull(0, 100, 0);
        x.pull(0, 100, 0);
        x.pull(0, 100, 5);
        return x;
    }

    private static void oneByOne() {
        NumbersCalled x = three();
        served("one by one", x, 0, 0, 10, 0, 1);
        served("one by one", x, 1, 10, 20, 0, 1);
        served("one by one", x, 2, 20, 30, 0, 1);
        sums("one by one", x, 3, 25, 15, 30, 0, 0, 0, 210);
        due.is("one by one: idle(0)", x.idle(0), 210);
        // a second counter takes two minutes longer
        x.counter(3, 2);
        served("two", x, 0, 0, 10, 0, 1);
        served("two", x, 1, 0, 12, 1, 1);
        served("two", x, 2, 10, 20, 0, 1);
        sums("two", x, 3, 5, 5, 20, 0, 0, 0, 220 + 228);
        due.is("two: idle(0)", x.idle(0), 220);
        due.is("two: idle(1)", x.idle(1), 228);
    }

    private static void aBreak() {
        NumbersCalled x = three();
        x.change(0, 2, 5);
        served("a break", x, 0, 0, 10, 0, 1);
        served("a break", x, 1, 15, 25, 0, 1);
        served("a break", x, 2, 25, 35, 0, 1);
        sums("a break", x, 3, 35, 20, 35, 0, 0, 0, 205);
        x.change(0, 2, 0);
        served("a break at 0", x, 0, 10, 20, 0, 1);
        sums("a break at 0", x, 3, 10 + 20 + 25, 25, 40, 0, 0, 0, 200);
        x.change(0, 2, 20);
        sums("a break at 20", x, 3, 35, 25, 40, 0, 0, 0, 200);
        x.change(0, 2, 21);
        sums("a break till 30", x, 3, 25, 15, 30, 0, 0, 0, 209);
        x.change(0, 2, 119);
        sums("a break at 119", x, 3, 25, 15, 30, 0, 0, 0, 200);
        // one that is busy all its break goes on, and has none later
        x.change(0, 1, 5);
        x.change(0, 2, 16);
        served("a break while busy", x, 1, 15, 30, 0, 1);
        served("a break while busy", x, 2, 30, 45, 0, 1);
        sums("a break while busy", x, 3, 40, 25, 45, 0, 0, 0, 195);
    }

    private static void turnedAway() {
        NumbersCalled x = three();
        x.set(2, 5);
        lost("stop 5", x, 2, 4, 0);
        sums("stop 5", x, 2, 10, 10, 20, 0, 1, 0, 220);
        x.set(2, 6);
        served("stop 6", x, 2, 20, 30, 0, 1);
        x.set(2, 0);
        lost("stop 0", x, 0, 4, 0);
        sums("stop 0", x, 0, 0, 0, 0, 0, 3, 0, 240);
    }

    /** An OFF with more 0 comes at 8: at 10, 11 not there, at 12 there. */
    private static void notThere() {
        NumbersCalled x = new NumbersCalled();
        x.counter(1, 0);
        x.pull(0, 100, 0);
        x.pull(1, 50, 8);
        x.pull(0, 70, 9);
        served("called 3", x, 1, 12, 17, 0, 3);
        served("called 3", x, 2, 17, 24, 0, 1);
        sums("called 3", x, 3, 4 + 8, 8, 24, 0, 0, 0, 240 - 24);
        x.set(1, 2);
        lost("called 2", x, 1, 3, 2);
        served("called 2", x, 2, 12, 19, 0, 1);
        sums("called 2", x, 2, 3, 3, 19, 1, 0, 0, 240 - 19);
        x.set(1, 1);
        lost("called 1", x, 1, 3, 1);
        served("called 1", x, 2, 11, 18, 0, 1);
        x.set(1, 9);
        served("called 9", x, 1, 12, 17, 0, 3);
    }

    /** Base 50 ahead: more 4 waits till 50, more 3 till 45. */
    private static void patience() {
        NumbersCalled x = new NumbersCalled();
        x.counter(1, 0);
        x.pull(0, 500, 0);
        x.pull(0, 54, 0);
        served("patient", x, 1, 50, 55, 0, 1);
        x.forget();
        x.pull(0, 53, 0);
        lost("not so patient", x, 1, 3, 3);
        sums("not so patient", x, 1, 0, 0, 50, 1, 0, 0, 240 - 53);
    }

    private static void theWrongLetter() {
        NumbersCalled x = new NumbersCalled();
        x.counter(1, 0);
        x.counter(2, 0);
        x.pull(2, 100, 0);
        served("sent on in that minute", x, 0, 0, 10, 1, 2);
        due.is("sent on in that minute: idle(0)", x.idle(0), 239);
        due.is("sent on in that minute: idle(1)", x.idle(1), 230);
        x.change(0, 0, 2);
        x.change(1, 0, 1);
        served("sent back", x, 0, 1, 11, 0, 2);
        due.is("sent back: idle(0)", x.idle(0), 230);
        due.is("sent back: idle(1)", x.idle(1), 239);
        x.change(0, 0, 3);
        served("both letters", x, 0, 0, 10, 0, 1);
        x.change(0, 0, 2);
        x.change(1, 0, 0);
        lost("nobody does what is pulled", x, 0, 1, 0);
        x.change(0, 0, 0);
        x.change(1, 0, 1);
        lost("nobody does what is needed", x, 0, 1, 1);
        sums("nobody does what is needed", x, 0, 0, 0, 0, 0, 0, 1, 240 + 239);
        // behind 3 is 0
        x.forget();
        x.pull(2, 3100, 0);
        x.change(0, 0, 8);
        served("behind 3", x, 0, 0, 10, 1, 2);
        // a BACK needs what it pulled
        x.forget();
        x.pull(3, 100, 0);
        served("a BACK", x, 0, 0, 20, 1, 1);
    }

    /** An OFF with more 8 comes at 0, both have a break till 10: it isn't there from 10 to 19. */
    private static void calledTwiceInAMinute() {
        NumbersCalled x = new NumbersCalled();
        x.counter(1, 0);
        x.counter(1, 0);
        x.change(0, 2, 0);
        x.change(1, 2, 0);
        x.pull(1, 108, 0);
        lost("called by both", x, 0, 3, 3);
        due.is("called by both: idle(0)", x.idle(0), 228);
        due.is("called by both: idle(1)", x.idle(1), 229);
        x.set(1, 2);
        lost("called 2 by both", x, 0, 3, 2);
        due.is("called 2 by both: idle(0)", x.idle(0), 229);
        due.is("called 2 by both: idle(1)", x.idle(1), 229);
    }

    private static NumbersCalled four() {
        NumbersCalled x = new NumbersCalled();
        x.counter(1, 0);
        x.pull(0, 309, 0);
        x.pull(4, 209, 0);
        x.pull(3, 109, 0);
        x.pull(0, 59, 0);
        return x;
    }

    private static void first() {
        NumbersCalled x = four();
        int[][] begins = {{0, 30, 50, 70}, {20, 0, 50, 70}, {45, 25, 5, 0}, {20, 50, 0, 70}};
        int[] takes = {30, 20, 20, 5};
        for (int who = 0; who < 4; who++) {
            x.set(0, who);
            for (int a = 0; a < 4; a++) {
                int begin = begins[who][a];
                served("who " + who, x, a, begin, begin + takes[a], 0, 1);
            }
        }
    }

    /** All wait when a break ends at 10: of like ones who comes first, then the least number. */
    private static void likeOnes() {
        int[] kinds = {0, 4, 0, 3};
        for (int who = 0; who < 4; who++) {
            NumbersCalled x = new NumbersCalled();
            x.counter(1, 0);
            x.change(0, 2, 0);
            x.set(0, who);
            int kind = kinds[who];
            int takes = kind == 3 ? 20 : 10;
            x.pull(kind, 109, 5);
            x.pull(kind, 109, 3);
            x.pull(kind, 109, 5);
            served("like ones, who " + who, x, 1, 10, 10 + takes, 0, 1);
            served("like ones, who " + who, x, 0, 10 + takes, 10 + 2 * takes, 0, 1);
            served("like ones, who " + who, x, 2, 10 + 2 * takes, 10 + 3 * takes, 0, 1);
        }
    }

    private static void theEndOfTheDay() {
        NumbersCalled x = new NumbersCalled();
        x.counter(1, 0);
        Due.law(x, "takes 60;waits 999;minds wait;");
        for (int a = 0; a < 4; a++) {
            x.pull(0, 100, 119);
        }
        served("late", x, 0, 119, 179, 0, 1);
        served("late", x, 1, 179, 239, 0, 1);
        served("late", x, 2, 239, 299, 0, 1);
        lost("late", x, 3, 1, 0);
        sums("late", x, 3, 60 + 120, 120, 299, 0, 0, 1, 119);
        // one minute later is too late
        x.change(0, 2, 119);
        served("later", x, 0, 129, 189, 0, 1);
        served("later", x, 1, 189, 249, 0, 1);
        lost("later", x, 2, 1, 0);
        sums("later", x, 2, 80, 70, 249, 0, 0, 2, 119);
    }

    /** Called at 0 with the wrong letter; then the counter that does what it needs is late. */
    private static void missedBehindTheWrongLetter() {
        NumbersCalled x = new NumbersCalled();
        x.counter(1, 0);
        x.counter(2, 0);
        x.pull(0, 1409, 0);
        x.pull(2, 100, 0);
        x.set(1, 2);
        // at 0 counter 0 sends it on, counter 1 is busy till 40; it waits 30 at most
        lost("sent on, gone", x, 1, 3, 2);
        x.set(1, 1);
        // it was called more often than that already
        lost("sent on, gone, called 1", x, 1, 3, 2);
        x.set(1, 3);
        lost("sent on, gone, called 3", x, 1, 3, 3);
    }

    /** All wait when a break ends at 10: the one who comes last is ahead of the one who comes first. */
    private static void aheadWhoeverComesFirst() {
        int[] kinds = {0, 4, 0, 3};
        int[] bases = {10, 10, 9, 10};
        for (int who = 0; who < 4; who++) {
            NumbersCalled x = new NumbersCalled();
            x.counter(1, 0);
            x.change(0, 2, 0);
            x.set(0, who);
            x.pull(0, 109, 1);
            x.pull(kinds[who], 10 * bases[who] + 9, 9);
            due.is("ahead, who " + who + ": of(0, 0)", x.of(0, 0), 2);
            due.is("ahead, who " + who + ": is asker 0 ahead", x.of(0, 1) < x.of(1, 1) ? 1 : 0, who == 0 ? 1 : 0);
            due.is("ahead, who " + who + ": sum(3)", x.sum(3), who == 2 ? 29 : who == 3 ? 40 : 30);
        }
        // the one who ends last, and waits longest, is the first by number
        NumbersCalled x = new NumbersCalled();
        x.counter(1, 0);
        x.set(0, 1);
        x.pull(0, 100, 0);
        x.pull(4, 100, 0);
        sums("the first is last", x, 2, 10, 10, 20, 0, 0, 0, 220);
    }

    /** In a day as in asks(): slow is of takes, said of neither, wait is minutes behind coming. */
    private static void theLawOfADay() {
        NumbersCalled x = new NumbersCalled();
        x.counter(1, 4);
        Due.law(x, "takes 10 + slow + said * 9 + wait;waits 14 + (slow + said) * 9;minds 1;");
        x.pull(0, 100, 2);
        x.pull(0, 100, 2);
        served("the law of a day", x, 0, 2, 16, 0, 1);
        served("the law of a day", x, 1, 16, 16 + 14 + 14, 0, 1);
        x.change(0, 1, 5);
        lost("the law of a day", x, 1, 3, 3);
    }

    /** Each of these is the first call behind a change. */
    private static void eachCallLivesItsDay() {
        NumbersCalled x = three();
        due.is("three: harmed()", x.harmed(), 25);
        x.forget();
        due.is("two: harmed()", x.harmed(), 10);
        x.forget();
        due.is("one: idle(0)", x.idle(0), 230);
        x.pull(0, 100, 0);
        due.is("two: idle(0)", x.idle(0), 220);
        x.move(1, 50);
        due.is("moved: sum(3)", x.sum(3), 60);
        x.move(1, 60);
        due.is("moved: of(1, 1)", x.of(1, 1), 60);
        // what was tried is gone
        x.letter(0, 0);
        x.rest(0, 0);
        x.stop(0);
        x.pay(1);
        x.door(1);
        x.call(0);
        x.best(1, 0);
        x.when(0, 9, 0);
        x.train(0, 0);
        x.drawn(5, 0);
        x.odds(5, 5, 5, 0);
        due.is("tried: harmed()", x.harmed(), 0);
        due.is("tried: idle(0)", x.idle(0), 220);
        due.is("tried: sum(3)", x.sum(3), 70);
        due.is("tried: of(1, 1)", x.of(1, 1), 60);
    }

    private static void refusals() {
        NumbersCalled x = three();
        due.is("of(3, 0)", x.of(3, 0), -5);
        due.is("of(-1, 0)", x.of(-1, 0), -5);
        due.is("of(3, 6): -5 first", x.of(3, 6), -5);
        due.is("of(0, 6)", x.of(0, 6), -7);
        due.is("of(0, -1)", x.of(0, -1), -7);
        due.is("sum(8)", x.sum(8), -2);
        due.is("sum(-1)", x.sum(-1), -2);
        due.is("idle(1)", x.idle(1), -5);
        due.is("idle(-1)", x.idle(-1), -5);
    }
}
