import java.lang.reflect.Method;
import java.lang.reflect.Modifier;
import java.util.Set;
import java.util.TreeSet;

/**
 * Promises 1 to 45 in one life of one object: exactly 512 calls, each of the face among them. What one call
 * changes, the others show behind it; all answers are worked out by hand.
 */
public final class StoryTest {
    private static final Due due = new Due("StoryTest");
    private static final int LIFE = 512;
    private static final long NO = -4611686018427387904L;

    private final NumbersCalled x = new NumbersCalled();
    private final Set<String> called = new TreeSet<>();
    private int calls = 0;

    public static void main(String[] args) {
        StoryTest story = new StoryTest();
        story.nothing();
        story.aCounter();
        story.anAsker();
        story.anotherMinute();
        story.anotherLaw();
        story.twoByTheImage();
        story.whatElseTheImageKeeps();
        story.sheets();
        story.aBack();
        story.whoPays();
        story.untilItRests();
        story.parts();
        story.toTheEnd();
        due.is("calls of this life", story.calls, LIFE);
        Set<String> face = new TreeSet<>();
        for (Method m : NumbersCalled.class.getDeclaredMethods()) {
            if (Modifier.isPublic(m.getModifiers())) {
                face.add(m.getName());
            }
        }
        due.is("all of " + face + " are called", face.equals(story.called) ? 1 : 0, 1);
        due.end();
    }

    private void is(String call, long want) {
        calls++;
        Script.Call c = Script.read(call);
        called.add(c.name());
        due.is("call " + calls + ", " + call, c.on(x), want);
    }

    /** The answers to a call by what 0, 1, 2 .. : a % in it stands for these. */
    private void each(String call, int... want) {
        for (int what = 0; what < want.length; what++) {
            is(call.replace("%", "" + what), want[what]);
        }
    }

    private void tape(String text) {
        int size = 0;
        for (Script.Call c : Script.feeds(text)) {
            size += (Integer) c.in()[0];
            is(c.told(), size);
        }
    }

    private void nothing() {
        each("count(%)", 0, 3, 120, 0, 0, 1, 0, 0);
        each("sum(%)", 0, 0, 0, 0, 0, 0, 0, 0);
        is("harmed()", 0);
        is("uneasy()", 0);
        is("rests(5)", 0);
        is("forget()", -3);
        is("back()", -3);
        is("force(1)", -2);
        is("of(0, 0)", -5);
        is("idle(0)", -5);
        each("say(%)", 0, 0);
        each("when(0, 5, %)", 0, 120);
        each("call(%)", 1, 0);
        is("stop(0)", 120);
        each("train(0, %)", 0, -1);
        is("pay(2)", 0);
        is("door(0)", 0);
        is("drawn(0, 3)", 0);
        each("odds(0, 4, 0, %)", 1, 1);
        is("judge(0)", -11);
        is("film(0)", 0);
        is("judge(0)", -1);
        is("laws(0)", 1);
        is("which(0)", 15);
    }

    private void aCounter() {
        is("counter(1, 0)", 0);
        is("count(3)", 1);
        each("counterTold(0, %)", 1, 0, -1);
        is("idle(0)", 240);
        is("change(0, 2, 30)", -1);
        is("idle(0)", 230);
        is("sum(7)", 230);
        is("change(0, 2, -1)", 30);
        is("sum(7)", 240);
        is("taken(0, 6)", 1);
        is("change(0, 0, 3)", 1);
        is("taken(0, 6)", 3);
        is("when(1, 5, 1)", 0);
        is("change(0, 0, 1)", 3);
        is("when(1, 5, 1)", 120);
        is("change(0, 1, 4)", 0);
        is("counterTold(0, 1)", 4);
    }

    /** Letter 0, base 10, more 0, comes at 5, at a counter of slow 4, then 0. */
    private void anAsker() {
        is("pull(0, 100, 5)", 0);
        is("count(4)", 1);
        each("told(0, %)", 0, 0, 10, 0, 5, 0);
        each("of(0, %)", 2, 5, 19, 0, 0, 1);
        each("sum(%)", 1, 0, 0, 19, 0, 0, 0, 226);
        is("judge(0)", -2);
        is("film(0)", 1);
        is("judge(0)", -1);
        is("change(0, 1, 0)", 4);
        is("judge(0)", 0);
        is("laws(0)", 0);
        is("which(0)", 0);
        is("of(0, 2)", 15);
        is("film(0)", 1);
        is("laws(0)", 1);
        is("which(0)", 15);
        is("taken(4, 0)", 0);
        is("taken(4, 1)", -13);
        is("asks(0, 0, 30, 0, 1)", 1);
        is("asks(0, 0, 31, 0, 1)", 0);
        is("asks(0, 0, 7, 9, 2)", 7);
    }

    private void anotherMinute() {
        is("move(0, 119)", 5);
        is("told(0, 4)", 119);
        is("of(0, 2)", 129);
        is("judge(0)", 0);
        is("move(0, 5)", 119);
        is("judge(0)", -1);
        is("set(2, 5)", 120);
        each("of(0, %)", 4, -1, -1, -1, -1, 0);
        is("sum(5)", 1);
        is("harmed()", 60);
        each("best(0, %)", 0, 0);
        is("uneasy()", 1);
        is("stop(15)", 120);
        is("stop(14)", 5);
        is("count(2)", 5);
        is("set(2, 120)", 5);
        is("of(0, 0)", 2);
        is("uneasy()", 0);
    }

    private void anotherLaw() {
        tape("takes 7;waits 20;minds said;");
        is("count(7)", 28);
        is("text()", 1);
        is("count(7)", 0);
        is("count(5)", 2);
        is("laws(0)", 1);
        is("force(1)", 0);
        is("count(6)", 1);
        is("of(0, 2)", 12);
        is("judge(0)", 0);
        is("asks(0, 0, 21, 0, 1)", 0);
        is("asks(0, 0, 9, 33, 2)", 33);
        is("film(1)", 1);
        is("laws(1)", 2);
        is("feed(1, 63, 0, 0, 0, 0)", 1);
        is("text()", -100);
        is("count(5)", 2);
        is("count(7)", 0);
        is("force(0)", 1);
    }

    /** A counter that does letter 1, slow 3, and a WRONG of base 20, who is sent on to it at 15. */
    private void twoByTheImage() {
        is("image()", 1);
        is("counter(2, 3)", 1);
        is("pull(2, 200, 6)", 1);
        is("told(1, 5)", 1);
        each("of(1, %)", 2, 15, 38, 1, 9, 2);
        each("sum(%)", 2, 9, 9, 38, 0, 0, 0, 446);
        is("idle(0)", 229);
        is("idle(1)", 217);
        each("door(%)", 0, 9);
        each("letter(0, %)", -1, 9);
        each("letter(1, %)", 0, 0);
        each("train(9, %)", 0, -1);
        each("train(8, %)", 1, 10);
        each("rest(0, %)", 20, 9);
        each("rest(1, %)", 0, 9);
        each("call(%)", 1, 9);
        each("best(1, %)", 0, 0);
        is("uneasy()", 2);
        is("taken(5, 2)", 1);
        is("taken(5, 3)", -13);
        // by seed 0 they come at 8 and 0
        is("drawn(0, 1)", 0);
        is("drawn(0, 3)", 23);
        is("drawn(0, 7)", 446);
        each("odds(0, 1, 23, %)", 1, 1);
        each("odds(0, 1, 22, %)", 0, 1);
        // what was only asked has changed nothing
        each("of(1, %)", 2, 15, 38, 1, 9, 2);
        is("harmed()", 9);
        is("counterTold(1, 0)", 2);
        is("told(1, 4)", 6);
    }

    private void whatElseTheImageKeeps() {
        is("film(0)", 2);
        is("set(0, 1)", 0);
        is("set(1, 9)", 3);
        is("set(2, 0)", 120);
        is("force(1)", 0);
        is("move(0, 77)", 5);
        is("change(0, 0, 0)", 1);
        is("change(0, 2, 7)", -1);
        is("harmed()", 120);
        is("judge(0)", 0);
        is("back()", 1);
        each("count(%)", 0, 3, 120, 1, 1, 2, 0, 0);
        each("counterTold(0, %)", 1, 0, -1);
        is("idle(1)", -5);
        is("told(1, 0)", -5);
        is("taken(5, 2)", -11);
        is("told(0, 4)", 5);
        is("of(0, 2)", 15);
        is("judge(0)", -2);
        is("laws(1)", 2);
        is("forget()", 0);
        is("back()", -3);
        is("pull(4, 100, 5)", 0);
        is("taken(4, 4)", 0);
    }

    /** A sheet of two that are pulled, of whom one has no base. */
    private void sheets() {
        is("sheet(2, 2, 6)", 1);
        int[] cells = {3, 1209, 20, 5, 0, 20};
        for (int i = 0; i < cells.length; i++) {
            is("cell(2, " + i + ", " + cells[i] + ")", 1);
        }
        is("pulls(2, 2, 0, 2)", 1);
        is("count(4)", 2);
        each("told(1, %)", 3, 1, 20, 9, 20, 1);
        is("pulls(2, 2, 0, 3)", -12);
        is("count(4)", 3);
        is("copy(2, 0, 2, 3, 3)", 3);
        is("pulls(2, 2, 3, 1)", 1);
        is("told(3, 0)", 3);
        is("forget()", 3);
        is("forget()", 2);
        is("sheet(3, 0, 2)", 1);
        is("cell(3, 0, 15)", 1);
        is("cell(3, 1, 255)", 1);
        is("judge(3)", -1);
        is("copy(3, 1, 3, 0, 1)", 1);
        is("judge(3)", 0);
        is("copy(3, 0, 2, 0, 1)", -13);
        is("sheet(3, -1, 0)", 1);
        is("judge(3)", -11);
    }

    /** Asker 1 is a BACK of base 20, who comes at 20; asker 2 needs the same counter at 25, and goes. */
    private void aBack() {
        is("of(1, 0)", 1);
        is("change(0, 0, 3)", 1);
        is("of(1, 2)", 60);
        is("asks(1, 0, 0, 0, 0)", 40);
        is("pull(0, 1050, 25)", 2);
        is("of(2, 0)", 3);
        is("sum(4)", 1);
        is("harmed()", 60);
        each("door(%)", 45, 0);
        each("call(%)", 1, 60);
        is("set(1, 9)", 3);
        is("of(2, 5)", 9);
        is("set(1, 3)", 9);
        is("of(2, 5)", 3);
    }

    private void whoPays() {
        is("move(0, 20)", 5);
        is("sum(1)", 10);
        is("pay(1)", 0);
        is("pay(2)", 10);
        is("pay(3)", 0);
        is("set(0, 2)", 0);
        is("sum(1)", 20);
        is("pay(2)", 10);
        is("set(0, 3)", 2);
        is("of(0, 0)", 3);
        is("sum(4)", 2);
        is("set(0, 0)", 3);
    }

    private void untilItRests() {
        is("uneasy()", 6);
        is("rests(1)", 2);
        is("told(0, 4)", 20);
        is("told(1, 4)", 0);
        is("told(2, 4)", 60);
        is("of(0, 4)", 20);
        is("uneasy()", 1);
        is("rests(5)", 2);
        is("told(0, 4)", 0);
        is("told(1, 4)", 20);
        is("uneasy()", 0);
        is("rests(5)", 0);
        is("harmed()", 0);
        each("when(0, 5, %)", 80, 0);
        tape("takes 9;waits 99;minds 30-said;");
        is("text()", 2);
        is("force(2)", 0);
        each("say(%)", 30, 0);
        is("of(1, 2)", 38);
        is("force(0)", 2);
    }

    private void parts() {
        is("over(2, 50, 0)", 750000000);
        is("over(40, 100, 39)", 1000000000);
        is("over(40, 100, 40)", 0);
        is("over(41, 100, 40)", NO);
        is("give(100, 3, 0)", 3);
        is("give(50, 0, 500)", 1);
        is("give(0, 0, 0)", 40);
    }

    /** One asker is left, of base 10; how it is told till the last call of all. */
    private void toTheEnd() {
        is("forget()", 2);
        is("forget()", 1);
        int was = 0;
        for (int round = 1; calls < LIFE; round++) {
            int minute = 37 * round % 120;
            int other = (minute + round) % 120;
            String[] told = {"move(0, " + minute + ")", "of(0, 2)", "film(0)", "judge(0)", "image()", "move(0, " + other + ")",
                "sum(3)", "judge(0)", "back()", "told(0, 4)", "judge(0)"};
            int[] want = {was, minute + 10, 1, -1, 1, minute, other + 10, other == minute ? -1 : 0, 1, minute, -1};
            for (int i = 0; i < told.length && calls < LIFE; i++) {
                is(told[i], want[i]);
            }
            was = minute;
        }
    }
}
