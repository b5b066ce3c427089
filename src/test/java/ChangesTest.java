import java.util.ArrayList;
import java.util.List;

/**
 * Promises 1 to 45: each call that changes something, and each such call behind each other one: all that can be
 * asked shows it, as the model has it.
 */
public final class ChangesTest {
    private static final Due due = new Due("ChangesTest");
    private static final String SHORT_LAW = "takes 4 + slow;waits 18;minds wait - said;";
    private static final String[] CHANGES = {"counter(9, 1)", "change(0, 0, 14)", "change(0, 1, 9)", "change(0, 2, 6)",
        "change(1, 2, -1)", "set(0, 1)", "set(0, 2)", "set(0, 3)", "set(1, 1)", "set(2, 12)", "feed(2, 32, 49, 0, 0, 0)",
        "text()", "force(1)", "force(0)", "pull(5, 1043, 9)", "pull(3, 2081, 3)", "move(0, 30)", "move(2, 119)", "forget()",
        "rests(1)", "rests(5)", "film(0)", "film(2)", "image()", "back()", "sheet(0, 2, 4)", "sheet(1, 0, 6)",
        "sheet(2, -1, 0)", "cell(0, 1, 77)", "cell(1, 4, 299)", "copy(0, 0, 2, 1, 2)", "copy(2, 1, 2, 0, 3)",
        "pulls(1, 1, 0, 2)", "pulls(2, 2, 0, 1)", "text", "uneasy()", "when(0, 5, 1)", "drawn(9, 1)"};
    private static final List<Script.Call> ASKS = new ArrayList<>();
    private static final List<Script.Call> LONG_ASKS = new ArrayList<>();

    private NumbersCalled x = new NumbersCalled();
    private Model m = new Model();
    private String told = "";

    public static void main(String[] args) {
        asks();
        longAsks();
        for (int hall = 0; hall < 3; hall++) {
            for (String first : CHANGES) {
                new ChangesTest(hall).show(List.of(first), LONG_ASKS);
                for (String then : hall > 0 ? CHANGES : new String[0]) {
                    new ChangesTest(hall).show(List.of(first, then), ASKS);
                }
            }
        }
        due.end();
    }

    private ChangesTest(int hall) {
        told = "hall " + hall;
        if (hall > 0) {
            calls("counter(3, 2)", "counter(6, 0)", "change(1, 2, 20)", "set(1, 2)");
            text(SHORT_LAW);
            calls("force(1)", "pull(2, 70, 2)", "pull(3, 1093, 4)", "pull(4, 51, 5)", "pull(1, 1120, 5)");
        }
        if (hall > 1) {
            calls("pull(0, 2090, 6)", "pull(5, 1062, 8)", "film(0)", "image()", "set(0, 2)", "pull(0, 30, 10)", "force(0)",
                "sheet(1, 1, 9)", "cell(1, 0, 1)", "cell(1, 1, 2055)", "cell(1, 2, 11)", "cell(1, 4, 90)", "cell(1, 5, 12)",
                "film(2)", "feed(5, 116, 97, 107, 101, 115)");
        }
    }

    private void show(List<String> changes, List<Script.Call> asks) {
        for (String change : changes) {
            told += ", " + change;
            if (change.equals("text")) {
                text("takes 30 - base;waits 35;minds (said - wait) * (said - wait);");
            } else {
                calls(change);
            }
        }
        for (Script.Call ask : asks) {
            same(ask);
        }
    }

    private void calls(String... all) {
        for (String call : all) {
            same(Script.read(call));
        }
    }

    private void text(String text) {
        for (Script.Call c : Script.feeds(text)) {
            same(c);
        }
        calls("text()");
    }

    private void same(Script.Call c) {
        due.is(told + ": " + c.told(), c.on(x), c.on(m));
    }

    private static void asks() {
        String[] all = {"harmed()", "judge(0)", "judge(2)", "which(0)", "laws(0)", "pay(2)", "door(0)", "door(1)", "say(0)",
            "best(1, 1)", "when(1, 9, 0)", "letter(0, 1)", "call(1)", "rest(1, 1)", "drawn(5, 1)", "odds(5, 4, 60, 0)",
            "over(9, 50, 3)", "give(50, 5, 60)", "asks(1, 0, 9, 4, 0)", "asks(1, 0, 20, 4, 1)", "asks(0, 1, 9, 4, 2)",
            "taken(1, 6)", "taken(6, 4)", "taken(7, 1)", "taken(10, 0)"};
        for (String call : all) {
            ASKS.add(Script.read(call));
        }
        for (int what = 0; what < 8; what++) {
            ASKS.add(Script.call("count", what));
            ASKS.add(Script.call("sum", what));
        }
        for (int of = 0; of < 8; of++) {
            ASKS.add(Script.call("told", of, 4));
            ASKS.add(Script.call("of", of, 2));
        }
        for (int c = 0; c < 3; c++) {
            ASKS.add(Script.call("counterTold", c, c));
            ASKS.add(Script.call("idle", c));
        }
        // what the sheets and the tape hold shows only in what comes of it
        ASKS.addAll(List.of(Script.read("pulls(0, 2, 0, 1)"), Script.read("pulls(1, 1, 3, 1)"), Script.read("pulls(1, 0, 3, 1)"),
            Script.read("pulls(2, 2, 1, 1)"), Script.read("text()"), Script.read("back()"), Script.read("harmed()")));
    }

    private static void longAsks() {
        LONG_ASKS.addAll(ASKS.subList(0, ASKS.size() - 7));
        String[] all = {"train(5, 0)", "train(5, 1)", "train(30, 1)", "stop(40)", "stop(90)", "uneasy()", "letter(1, 0)",
            "rest(0, 0)", "pay(1)", "pay(3)", "say(1)", "call(0)", "odds(70, 20, 70, 1)", "best(0, 0)", "best(3, 0)"};
        for (String call : all) {
            LONG_ASKS.add(Script.read(call));
        }
        for (int a = 0; a < 8; a++) {
            for (int what = 0; what < 6; what++) {
                LONG_ASKS.add(Script.call("told", a, what));
                LONG_ASKS.add(Script.call("of", a, what));
            }
        }
        LONG_ASKS.addAll(ASKS.subList(ASKS.size() - 7, ASKS.size()));
    }
}
