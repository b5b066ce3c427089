import java.util.ArrayList;
import java.util.List;

/** Promises 14 to 39: what is only asked leaves nothing behind that another call could see. */
public final class AnyOrderTest {
    private static final Due due = new Due("AnyOrderTest");
    private static final List<String> names = new ArrayList<>();
    private static final List<Bounds.Call> calls = new ArrayList<>();

    public static void main(String[] args) {
        aDay();
        better();
        others();
        for (Bounds.Hall hall : new Bounds.Hall[] {Halls.EMPTY, Halls.SOME, Halls.FULL, AnyOrderTest::crowd}) {
            long[] alone = new long[calls.size()];
            for (int i = 0; i < alone.length; i++) {
                alone[i] = calls.get(i).on(hall.make());
            }
            for (int first = 0; first < alone.length; first++) {
                for (int then = 0; then < alone.length; then++) {
                    NumbersCalled x = hall.make();
                    calls.get(first).on(x);
                    String told = names.get(then) + " behind " + names.get(first);
                    due.is(told, calls.get(then).on(x), alone[then]);
                }
            }
        }
        due.end();
    }

    private static void add(String name, Bounds.Call call) {
        names.add(name);
        calls.add(call);
    }

    private static void aDay() {
        for (int i = 0; i < 3; i++) {
            int what = i;
            add("asks(1, 1, 5, 3, " + what + ")", x -> x.asks(1, 1, 5, 3, what));
        }
        for (int i = 0; i < 6; i++) {
            int what = i;
            add("of(1, " + what + ")", x -> x.of(1, what));
        }
        for (int i = 0; i < 8; i++) {
            int what = i;
            add("sum(" + what + ")", x -> x.sum(what));
            add("drawn(77, " + what + ")", x -> x.drawn(77, what));
        }
        add("idle(1)", x -> x.idle(1));
        add("harmed()", NumbersCalled::harmed);
    }

    private static void better() {
        for (int i = 0; i < 2; i++) {
            int what = i;
            add("letter(0, " + what + ")", x -> x.letter(0, what));
            add("letter(1, " + what + ")", x -> x.letter(1, what));
            add("train(9, " + what + ")", x -> x.train(9, what));
            add("rest(0, " + what + ")", x -> x.rest(0, what));
            add("rest(1, " + what + ")", x -> x.rest(1, what));
            add("call(" + what + ")", x -> x.call(what));
            add("door(" + what + ")", x -> x.door(what));
            add("say(" + what + ")", x -> x.say(what));
            add("best(0, " + what + ")", x -> x.best(0, what));
            add("best(2, " + what + ")", x -> x.best(2, what));
            add("when(1, 9, " + what + ")", x -> x.when(1, 9, what));
            add("odds(7, 9, 80, " + what + ")", x -> x.odds(7, 9, 80, what));
        }
        for (int i = 1; i < 4; i++) {
            int by = i;
            add("pay(" + by + ")", x -> x.pay(by));
        }
        add("stop(0)", x -> x.stop(0));
        add("stop(70)", x -> x.stop(70));
        add("uneasy()", NumbersCalled::uneasy);
    }

    private static void others() {
        add("over(20, 40, 7)", x -> x.over(20, 40, 7));
        add("over(3, 90, 0)", x -> x.over(3, 90, 0));
        add("give(60, 9, 50)", x -> x.give(60, 9, 50));
        add("judge(2)", x -> x.judge(2));
        add("laws(2)", x -> x.laws(2));
        add("which(2)", x -> x.which(2));
        // these change something, but not what any of the others tells
        add("film(3)", x -> x.film(3));
        add("image()", NumbersCalled::image);
        add("rests(0)", x -> x.rests(0));
    }

    /** Crowded, of all kinds: each thing that is tried makes another day. */
    private static NumbersCalled crowd() {
        NumbersCalled x = new NumbersCalled();
        x.counter(1, 2);
        x.counter(6, 0);
        x.change(0, 2, 20);
        int[] kinds = {3, 2, 1, 4, 0, 2, 5, 3, 4};
        for (int a = 0; a < kinds.length; a++) {
            x.pull(kinds[a], 1000 * (a % 2) + 10 * (19 - a) + a % 4, 4 * a);
        }
        x.set(1, 2);
        Due.text(x, "takes 5 + base * (wait < 9);waits 20;minds wait;");
        Due.law(x, "takes base + slow;waits 25 + more * 5;minds (wait - said) * (wait - said);");
        x.film(2);
        x.move(3, 50);
        return x;
    }
}
