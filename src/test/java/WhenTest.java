/** Promises 26 to 30: what to say, when to come, worked out by hand. */
public final class WhenTest {
    private static final Due due = new Due("WhenTest");

    public static void main(String[] args) {
        say();
        best();
        uneasyAndRests();
        manyDays();
        when();
        due.end();
    }

    private static void both(String call, int what0, int what1, int want0, int want1) {
        due.is(call + ", what 0", what0, want0);
        due.is(call + ", what 1", what1, want1);
    }

    private static NumbersCalled two() {
        NumbersCalled x = new NumbersCalled();
        x.counter(1, 0);
        x.pull(0, 100, 0);
        x.pull(0, 100, 0);
        return x;
    }

    private static void say() {
        NumbersCalled x = two();
        both("say, by text 0", x.say(0), x.say(1), 0, 10);
        Due.law(x, "takes base;waits 99;minds (wait - said) * (wait - said);");
        both("say, squares of waits 0, 10", x.say(0), x.say(1), 5, 50);
        Due.law(x, "takes base;waits 99;minds 7;");
        both("say, like ones", x.say(0), x.say(1), 0, 14);
        Due.law(x, "takes base;waits 99;minds 100 - said;");
        both("say, 60 is the last", x.say(0), x.say(1), 60, 80);
        // 0 .. 999 each: waits 0, 10 mind 0 and 20 less than 0 at said 0
        Due.law(x, "takes base;waits 99;minds 0 - wait * 2 + said * wait;");
        both("say, not below 0 each", x.say(0), x.say(1), 0, 0);
        Due.law(x, "takes base;waits 99;minds 3000 * (said < 60) + 998;");
        both("say, not above 999 each", x.say(0), x.say(1), 60, 1996);
        due.is("say(2)", x.say(2), -2);
        due.is("say(-1)", x.say(-1), -2);
        // only who is served minds
        NumbersCalled y = new NumbersCalled();
        y.counter(1, 0);
        y.pull(0, 100, 0);
        y.pull(0, 1100, 0);
        Due.law(y, "takes base;waits 99;minds 100 + (30 - said) * (30 - said);");
        both("say, one is served", y.say(0), y.say(1), 30, 100);
    }

    private static void best() {
        NumbersCalled x = new NumbersCalled();
        x.pull(0, 100, 0);
        both("best, no counter", x.best(0, 0), x.best(0, 1), 0, 120);
        x.counter(1, 0);
        x.pull(0, 100, 5);
        both("best(0)", x.best(0, 0), x.best(0, 1), 0, 0);
        // at 0 it is behind asker 0
        both("best(1)", x.best(1, 0), x.best(1, 1), 20, 0);
        due.is("nothing changed", x.told(1, 4), 5);
        // from 20 on all are turned away
        x.set(2, 20);
        both("best(1), stop 20", x.best(1, 0), x.best(1, 1), 0, 10);
        x.set(2, 0);
        both("best(1), stop 0", x.best(1, 0), x.best(1, 1), 0, 120);
        due.is("best(2, 0)", x.best(2, 0), -5);
        due.is("best(-1, 0)", x.best(-1, 0), -5);
        due.is("best(2, 2): -5 first", x.best(2, 2), -5);
        due.is("best(0, 2)", x.best(0, 2), -7);
        due.is("best(0, -1)", x.best(0, -1), -7);
        // 100 is the last: always somebody before
        NumbersCalled y = new NumbersCalled();
        y.counter(1, 0);
        Due.law(y, "takes 60;waits 999;minds wait;");
        y.pull(0, 100, 0);
        y.pull(0, 100, 0);
        y.pull(0, 100, 0);
        both("best, 100", y.best(2, 0), y.best(2, 1), 100, 20);
    }

    private static void uneasyAndRests() {
        NumbersCalled x = two();
        due.is("uneasy()", x.uneasy(), 2);
        due.is("rests(0)", x.rests(0), 0);
        due.is("told(1, 4), unchanged", x.told(1, 4), 0);
        due.is("rests(-1)", x.rests(-1), -2);
        due.is("rests(6)", x.rests(6), -2);
        due.is("rests(1)", x.rests(1), 1);
        due.is("told(1, 4)", x.told(1, 4), 20);
        due.is("told(0, 4)", x.told(0, 4), 0);
        due.is("uneasy(), at rest", x.uneasy(), 0);
        due.is("rests(5), at rest", x.rests(5), 0);
        // one who isn't served is uneasy where another minute would do
        NumbersCalled y = new NumbersCalled();
        y.counter(1, 0);
        y.pull(0, 100, 30);
        y.pull(0, 100, 31);
        y.pull(0, 1100, 0);
        y.set(2, 30);
        due.is("uneasy(), turned away", y.uneasy(), 3);
        due.is("rests(5), turned away", y.rests(5), 2);
        due.is("told(0, 4)", y.told(0, 4), 0);
        due.is("told(1, 4)", y.told(1, 4), 20);
    }

    /** Three of 45 at 0: on day 0 asker 1 goes to 60 (45 at 0, 25 at 20, 5 at 40; none at 60), 2 .. */
    private static void manyDays() {
        NumbersCalled x = new NumbersCalled();
        x.counter(1, 0);
        Due.law(x, "takes 45;waits 999;minds wait;");
        x.pull(0, 100, 0);
        x.pull(0, 100, 0);
        x.pull(0, 100, 0);
        // asker 1 with 2 at 0: before 2 at 0, so 45 there; at 20 behind 2: 70; 40: 50; 60: 30; 80: 10; 100: 0
        // asker 2 then, with 1 at 100: 45 at 0, 25, 5 at 40, 0 at 60 (till 105)
        due.is("rests(1)", x.rests(1), 2);
        due.is("told(1, 4)", x.told(1, 4), 100);
        due.is("told(2, 4)", x.told(2, 4), 60);
        // the next day 1 waits 5 at 100: at 0 it waits 45, at 20 25, at 40 5 (ahead of 2), 60: 0, ahead of 2
        due.is("rests(1), next day", x.rests(1), 2);
        due.is("told(1, 4)", x.told(1, 4), 60);
        // 2 at 60 behind 1 waits 45: at 0 45, 20 25, 40 5 and no better till 100: 5 as well
        due.is("told(2, 4)", x.told(2, 4), 40);
        // 2 is from 45 to 90: 1 waits 30 at 60, 0 at 100; 2 waits 5 at 40, 0 at 60; and as two days ago
        due.is("rests(1), the third day", x.rests(1), 2);
        due.is("told(1, 4)", x.told(1, 4), 100);
        due.is("told(2, 4)", x.told(2, 4), 60);
        due.is("rests(5), without an end", x.rests(5), 10);
        due.is("told(1, 4)", x.told(1, 4), 60);
        due.is("told(2, 4)", x.told(2, 4), 40);
        due.is("uneasy()", x.uneasy(), 2);
    }

    private static void when() {
        NumbersCalled x = two();
        both("when(0, 5)", x.when(0, 5, 0), x.when(0, 5, 1), 20, 0);
        both("when(1, 5): nobody does it", x.when(1, 5, 0), x.when(1, 5, 1), 0, 120);
        due.is("count(4), unchanged", x.count(4), 2);
        due.is("told(2, 0), unchanged", x.told(2, 0), -5);
        // behind all others: at 0 last, at WHO 2 by its base
        NumbersCalled y = new NumbersCalled();
        y.counter(2, 0);
        y.pull(0, 1600, 0);
        y.pull(0, 1599, 60);
        // at 0: 60 behind asker 0; at 60 behind asker 1 with the wrong end: 59; at 20: 40; 40: 20; 80: 39; 100: 19
        both("when(1, 20)", y.when(1, 20, 0), y.when(1, 20, 1), 100, 19);
        y.set(0, 2);
        // at 0 ahead of asker 0; with base 60 behind both: till 119, if it stays so long
        both("when(1, 20), who 2", y.when(1, 20, 0), y.when(1, 20, 1), 0, 0);
        both("when(1, 60), who 2", y.when(1, 60, 0), y.when(1, 60, 1), 100, 19);
        // more 9: waits 30 + 9 * 5, so that of 75 minutes it stays
        Due.law(y, "takes 60;waits more * 2;minds wait;");
        y.set(0, 0);
        y.move(1, 38);
        // asker 1 waits 22 > 18 .. more 9 too: it is gone; the new one waits 0 at 60
        both("when(1, 1), waits more * 2", y.when(1, 1, 0), y.when(1, 1, 1), 80, 0);
        due.is("when(-1, 1, 0)", y.when(-1, 1, 0), -2);
        due.is("when(4, 1, 0)", y.when(4, 1, 0), -2);
        due.is("when(0, 0, 0)", y.when(0, 0, 0), -2);
        due.is("when(0, 100, 0)", y.when(0, 100, 0), -2);
        due.is("when(0, 1, 2)", y.when(0, 1, 2), -2);
        due.is("when(0, 1, -1)", y.when(0, 1, -1), -2);
        due.is("when(3, 99, 1)", y.when(3, 99, 1), 120);
        while (y.count(4) < 16) {
            y.pull(0, 10, 0);
        }
        due.is("when(0, 1, 0), 16 there", y.when(0, 1, 0), -3);
        due.is("when(4, 1, 0), 16 there: BAD first", y.when(4, 1, 0), -2);
        due.is("when(0, 0, 0), 16 there: BAD first", y.when(0, 0, 0), -2);
        due.is("when(0, 1, 2), 16 there: BAD first", y.when(0, 1, 2), -2);
    }
}
