/** Promises 19 to 25: what would be better, worked out by hand. */
public final class BetterTest {
    private static final Due due = new Due("BetterTest");

    public static void main(String[] args) {
        letter();
        train();
        rest();
        stop();
        call();
        pay();
        door();
        due.end();
    }

    private static void both(String call, int what0, int what1, int want0, int want1) {
        due.is(call + ", what 0", what0, want0);
        due.is(call + ", what 1", what1, want1);
    }

    private static void letter() {
        NumbersCalled x = new NumbersCalled();
        x.counter(1, 0);
        due.is("letter, nobody there", x.letter(0, 0), -1);
        due.is("letter, nobody there: harm", x.letter(0, 1), 0);
        x.counter(2, 0);
        x.pull(0, 100, 0);
        x.pull(0, 100, 0);
        both("letter(0)", x.letter(0, 0), x.letter(0, 1), -1, 10);
        both("letter(1)", x.letter(1, 0), x.letter(1, 1), 0, 0);
        due.is("nothing changed", x.counterTold(1, 0), 2);
        // two that nobody does yet: letters 2, 3 are as good, the first is told
        x.pull(0, 2100, 60);
        x.pull(0, 3100, 60);
        both("letter(0), like ones", x.letter(0, 0), x.letter(0, 1), 2, 10 + 60);
        // letter 0 is worth 10, letter 2 is worth 60
        both("letter(1), not the first", x.letter(1, 0), x.letter(1, 1), 2, 70);
        due.is("letter(2, 0)", x.letter(2, 0), -5);
        due.is("letter(-1, 0)", x.letter(-1, 0), -5);
        due.is("letter(2, 2): -5 first", x.letter(2, 2), -5);
        due.is("letter(0, 2)", x.letter(0, 2), -7);
        due.is("letter(0, -1)", x.letter(0, -1), -7);
    }

    private static void train() {
        NumbersCalled x = new NumbersCalled();
        x.counter(1, 0);
        x.counter(2, 0);
        x.pull(0, 100, 0);
        x.pull(0, 100, 0);
        both("train(10)", x.train(10, 0), x.train(10, 1), 0, -1);
        both("train(9)", x.train(9, 0), x.train(9, 1), 1, 10);
        due.is("nothing changed", x.counterTold(1, 0), 2);
        x.change(0, 0, 0);
        x.change(1, 0, 0);
        x.forget();
        x.pull(0, 1100, 0);
        both("train(10), both", x.train(10, 0), x.train(10, 1), 2, 1);
        both("train(9), both", x.train(9, 0), x.train(9, 1), 2, 11);
        x.pull(0, 2100, 0);
        both("train(999), three letters", x.train(999, 0), x.train(999, 1), -1, -1);
        // of like ones the first: either counter may learn letter 2
        x.change(0, 0, 1);
        x.change(1, 0, 2);
        both("train(999), either", x.train(999, 0), x.train(999, 1), 1, 2);
        both("train(0)", x.train(0, 0), x.train(0, 1), -1, -1);
        x.counter(0, 0);
        both("train(0), a third", x.train(0, 0), x.train(0, 1), 1, 22);
        // who is turned away is not served
        x.set(2, 0);
        both("train(999), all turned away", x.train(999, 0), x.train(999, 1), -1, -1);
        due.is("train(-1, 0)", x.train(-1, 0), -2);
        due.is("train(1000, 0)", x.train(1000, 0), -2);
        due.is("train(0, 2)", x.train(0, 2), -2);
        due.is("train(0, -1)", x.train(0, -1), -2);
        NumbersCalled y = new NumbersCalled();
        for (int c = 0; c < 4; c++) {
            y.counter(0, 0);
        }
        y.pull(0, 3100, 0);
        y.pull(0, 3100, 0);
        both("train(0), 2 of 4", y.train(0, 0), y.train(0, 1), 2, 313);
        y.change(0, 0, 8);
        both("train(0), 1 of 4", y.train(0, 0), y.train(0, 1), 1, 13);
        // counters 0 to 2 have a break: the last letter of the last counter
        y.forget();
        for (int c = 0; c < 3; c++) {
            y.change(c, 0, 0);
            y.change(c, 2, 0);
        }
        both("train(0), the last of 4", y.train(0, 0), y.train(0, 1), 1, 33);
        // the first letter of the first counter
        NumbersCalled z = new NumbersCalled();
        z.counter(0, 0);
        z.pull(0, 100, 0);
        both("train(0), the first", z.train(0, 0), z.train(0, 1), 1, 0);
        z.pull(0, 1100, 60);
        both("train(0), two of the first", z.train(0, 0), z.train(0, 1), 2, 1);
    }

    private static void rest() {
        NumbersCalled x = new NumbersCalled();
        x.counter(1, 0);
        x.pull(0, 100, 0);
        x.pull(0, 100, 45);
        both("rest(0)", x.rest(0, 0), x.rest(0, 1), 10, 0);
        // the break that it has is not there then
        x.change(0, 2, 0);
        both("rest(0), with a break", x.rest(0, 0), x.rest(0, 1), 10, 0);
        due.is("nothing changed", x.counterTold(0, 2), 0);
        x.counter(1, 0);
        both("rest(1)", x.rest(1, 0), x.rest(1, 1), 10, 0);
        // always somebody: 0 .. 59, 60 .. 119; at 110 the break costs least
        NumbersCalled y = new NumbersCalled();
        y.counter(1, 0);
        Due.law(y, "takes 10;waits 999;minds wait;");
        for (int a = 0; a < 12; a++) {
            y.pull(0, 100, 10 * a);
        }
        both("rest(0), always somebody", y.rest(0, 0), y.rest(0, 1), 110, 10);
        // behind a call that found less
        due.is("say(1) of it", y.say(1), 0);
        y.pull(0, 1100, 0);
        Due.law(y, "takes 10;waits 999;minds 0;");
        due.is("say(1) of nothing that is minded", y.say(1), 0);
        both("rest(0), one waits yet", y.rest(0, 0), y.rest(0, 1), 110, 70);
        due.is("rest(1, 0)", y.rest(1, 0), -5);
        due.is("rest(-1, 0)", y.rest(-1, 0), -5);
        due.is("rest(1, 2): -5 first", y.rest(1, 2), -5);
        due.is("rest(0, 2)", y.rest(0, 2), -7);
        due.is("rest(0, -1)", y.rest(0, -1), -7);
    }

    private static void stop() {
        NumbersCalled x = new NumbersCalled();
        due.is("stop(0), nobody", x.stop(0), 120);
        x.counter(1, 0);
        x.pull(0, 100, 20);
        due.is("stop(29), one alone", x.stop(29), 20);
        x.forget();
        x.pull(0, 100, 0);
        x.pull(0, 500, 20);
        due.is("stop(70)", x.stop(70), 120);
        due.is("stop(69)", x.stop(69), 20);
        due.is("stop(10)", x.stop(10), 20);
        due.is("stop(9)", x.stop(9), 0);
        x.pull(0, 1100, 30);
        due.is("stop(999): one would wait yet", x.stop(999), 30);
        x.set(2, 25);
        due.is("stop(999), whatever STOP is", x.stop(999), 30);
        due.is("count(2), unchanged", x.count(2), 25);
        // one more ahead may make it end sooner: the latest is sought from above
        NumbersCalled y = new NumbersCalled();
        y.counter(1, 0);
        Due.law(y, "takes 1 + (wait = 0) * 39;waits 999;minds wait;");
        y.pull(0, 100, 0);
        y.pull(0, 100, 50);
        y.pull(0, 100, 119);
        due.is("stop(159)", y.stop(159), 120);
        due.is("stop(158)", y.stop(158), 119);
        due.is("stop(89)", y.stop(89), 50);
        due.is("stop(-1)", y.stop(-1), -2);
        due.is("stop(1000)", y.stop(1000), -2);
        // a slow one at 10 keeps the last from being served late
        NumbersCalled z = new NumbersCalled();
        z.counter(1, 0);
        Due.law(z, "takes base * (wait < 1) + (0 < wait);waits 999;minds wait;");
        z.pull(0, 400, 10);
        z.pull(0, 450, 40);
        due.is("stop(51): both end at 51", z.stop(51), 120);
        due.is("stop(50): the first ends at 50", z.stop(50), 40);
        due.is("stop(49)", z.stop(49), 10);
        z.pull(0, 300, 51);
        due.is("stop(81)", z.stop(81), 120);
        due.is("stop(80)", z.stop(80), 51);
    }

    private static void call() {
        NumbersCalled x = new NumbersCalled();
        x.counter(1, 0);
        x.pull(0, 100, 0);
        x.pull(1, 50, 8);
        both("call", x.call(0), x.call(1), 3, 4);
        x.set(1, 9);
        both("call, called 9", x.call(0), x.call(1), 3, 4);
        due.is("count(1), unchanged", x.count(1), 9);
        // nobody is ever away: the fewest
        x.forget();
        both("call, like ones", x.call(0), x.call(1), 1, 0);
        // an OFF with more 8 isn't there from 10 to 19: nine calls do not help
        x.pull(1, 108, 0);
        x.change(0, 2, 1);
        both("call, in vain", x.call(0), x.call(1), 1, 60);
        // with more 7 not from 9 to 17: the counter is free at 9, the ninth call is at 17, one more helps
        NumbersCalled y = new NumbersCalled();
        y.counter(1, 0);
        y.change(0, 2, 0);
        y.pull(1, 107, 0);
        both("call, eight are in vain", y.call(0), y.call(1), 9, 18);
        y.move(0, 1);
        both("call, nine are in vain", y.call(0), y.call(1), 1, 60);
        due.is("call(2)", x.call(2), -2);
        due.is("call(-1)", x.call(-1), -2);
    }

    private static void pay() {
        NumbersCalled x = new NumbersCalled();
        x.counter(1, 0);
        x.pull(0, 309, 0);
        x.pull(4, 209, 0);
        x.pull(3, 109, 0);
        x.pull(0, 59, 0);
        for (int who = 0; who < 4; who++) {
            x.set(0, who);
            due.is("pay(1), who " + who, x.pay(1), 140 - 120);
            due.is("pay(2), who " + who, x.pay(2), 75 - 150);
            due.is("pay(3), who " + who, x.pay(3), 140 - 100);
            due.is("count(0), unchanged", x.count(0), who);
        }
        due.is("pay(0)", x.pay(0), -2);
        due.is("pay(4)", x.pay(4), -2);
        due.is("pay(-1)", x.pay(-1), -2);
    }

    private static void door() {
        NumbersCalled x = new NumbersCalled();
        x.counter(1, 0);
        x.pull(3, 100, 0);
        x.pull(0, 100, 0);
        due.is("door(0): 20 less 10", x.door(0), 10);
        due.is("door(1)", x.door(1), 0);
        due.is("harmed(), unchanged", x.harmed(), 20);
        NumbersCalled y = new NumbersCalled();
        y.counter(2, 0);
        y.counter(1, 0);
        y.pull(2, 100, 0);
        due.is("door(1): one minute less", y.door(1), 1);
        due.is("door(0)", y.door(0), 0);
        // by 40 minutes ahead of one who waits 30 less then
        NumbersCalled z = new NumbersCalled();
        z.counter(2, 0);
        z.counter(1, 0);
        z.pull(2, 409, 0);
        z.pull(0, 1309, 0);
        due.is("door(1): more", z.door(1), 30 - 40);
        // letter of the texts stays 0
        NumbersCalled w = new NumbersCalled();
        w.counter(3, 0);
        Due.law(w, "takes 1 + letter * 20;waits 99;minds wait;");
        w.pull(2, 100, 0);
        w.pull(0, 100, 0);
        due.is("door(1): the letter of the texts", w.door(1), 0);
        due.is("door(2)", w.door(2), -2);
        due.is("door(-1)", w.door(-1), -2);
    }
}
