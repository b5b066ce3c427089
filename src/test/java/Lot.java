import java.util.ArrayDeque;
import java.util.Deque;
import java.util.Random;
import java.util.Set;

/** Calls by lot, always the same ones by the same seed; the numbers in them mostly fit the hall as it is. */
final class Lot {
    /** All that change something; the others only ask. */
    static final Set<String> CHANGING = Set.of("counter", "change", "set", "feed", "text", "force", "pull", "move",
        "forget", "rests", "film", "image", "back", "sheet", "cell", "copy", "pulls");

    private static final String[] CHANGES = {"counter", "change", "change", "set", "force", "pull", "pull", "pull", "move",
        "move", "forget", "rests", "film", "film", "image", "back", "sheet", "sheet", "cell", "cell", "copy", "pulls",
        "pulls"};
    private static final String[] ASKS = {"counterTold", "count", "told", "asks", "asks", "of", "of", "of", "sum", "sum",
        "idle", "harmed", "letter", "rest", "call", "pay", "door", "say", "best", "when", "over", "give", "judge", "laws",
        "which", "drawn", "odds", "taken"};
    private static final String[] LONG_ASKS = {"train", "stop", "uneasy"};
    private static final String[] TEXTS = {"takes base + slow;waits 60;minds wait - said;",
        "takes 3 + base * (wait < 9) - slow;waits 25 + 7 * more;minds (wait - said) * (wait - said);",
        "takes more * 7 - 4;waits 40 - wait * (base < 20);minds not said and wait or base;",
        "takes 9 ; waits 12 * letter + 15 ; minds 9 + more - said ;",
        "takes 5+(wait<4 and slow<5 or letter=1)*9;waits 20+not(base<9 or more=3)*20;minds wait-said<4 and base-more*2;", "takes 9;waits 9;minds 9", "takes (9;waits",
        "takes 1 2;waits 9;minds 9;", "takes 5 or slow;waits said + 99999;minds 9;", ""};

    private final Random lot;
    private final Model hall;
    private final Deque<Script.Call> due = new ArrayDeque<>();

    Lot(long seed, Model hall) {
        lot = new Random(seed);
        this.hall = hall;
    }

    Script.Call next() {
        if (!due.isEmpty()) {
            return due.poll();
        }
        int r = lot.nextInt(100);
        if (r < 2) {
            for (Script.Call c : Script.feeds(of(TEXTS))) {
                due.add(c);
            }
            due.add(Script.call("text"));
            return due.poll();
        }
        String name = r < 30 ? of(CHANGES) : r < 97 ? of(ASKS) : of(LONG_ASKS);
        int few = hall.count(4);
        // the first ones fill the hall
        if (hall.count(3) == 0) {
            name = "counter";
        } else if (few < 3) {
            name = "pull";
        }
        return Script.call(name, in(name));
    }

    private String of(String[] all) {
        return all[lot.nextInt(all.length)];
    }

    /** Mostly between, now and then the ends and beside them, or far out. */
    private int of(int least, int most) {
        switch (lot.nextInt(80)) {
            case 0: return least - 1;
            case 1: return most + 1;
            case 2: return lot.nextInt();
            case 3: return least;
            case 4: return most;
            default: return least + lot.nextInt(Math.max(1, most - least + 1));
        }
    }

    private int asker() {
        return of(0, hall.count(4) - 1);
    }

    private int counter() {
        return of(0, hall.count(3) - 1);
    }

    private int pulled() {
        return 1000 * of(0, lot.nextInt(4)) + 10 * of(1, lot.nextInt(4) == 0 ? 99 : 15) + of(0, 9);
    }

    private int minute() {
        return lot.nextInt(3) == 0 ? of(0, 119) : of(0, 40);
    }

    private int[] in(String name) {
        switch (name) {
            case "counter": return new int[] {of(0, 15) | lot.nextInt(4), of(0, 9)};
            case "change": return change();
            case "counterTold": return new int[] {counter(), of(0, 2)};
            case "set": return set();
            case "count": return new int[] {of(0, 7)};
            case "force": return new int[] {of(0, hall.count(5) - 1)};
            case "pull": return new int[] {of(0, 5), pulled(), minute()};
            case "move": return new int[] {asker(), minute()};
            case "told": case "of": return new int[] {asker(), of(0, 5)};
            case "asks": return new int[] {asker(), counter(), of(0, lot.nextBoolean() ? 999 : 60), of(0, 60), of(0, 2)};
            case "sum": return new int[] {of(0, 7)};
            case "idle": return new int[] {counter()};
            case "letter": case "rest": return new int[] {counter(), of(0, 1)};
            case "train": return new int[] {of(0, lot.nextInt(3) == 0 ? 999 : 40), of(0, 1)};
            case "stop": return new int[] {of(0, lot.nextInt(3) == 0 ? 999 : 200)};
            case "pay": return new int[] {of(1, 3)};
            case "call": case "door": case "say": return new int[] {of(0, 1)};
            case "best": return new int[] {asker(), of(0, 1)};
            case "rests": return new int[] {of(0, 2)};
            case "when": return new int[] {of(0, 3), of(1, 99), of(0, 1)};
            default: return hostIn(name);
        }
    }

    private int[] change() {
        int what = of(0, 2);
        int v = what == 0 ? of(0, 15) | lot.nextInt(4) : what == 1 ? of(0, 9) : of(-1, 119);
        return new int[] {counter(), what, v};
    }

    private int[] set() {
        int what = of(0, 2);
        int v = what == 0 ? of(0, 3) : what == 1 ? of(1, 9) : Math.max(of(0, 120), lot.nextInt(121));
        return new int[] {what, v};
    }

    private int[] hostIn(String name) {
        int s = of(0, 3);
        switch (name) {
            case "over": return new int[] {of(0, 40), of(0, 100), of(0, lot.nextBoolean() ? 40 : 9)};
            case "give": return new int[] {of(0, 100), of(0, 40), of(0, lot.nextBoolean() ? 1000 : 40)};
            case "drawn": return new int[] {of(0, 99999), of(0, 7)};
            case "odds": return new int[] {of(0, 99999), of(1, 20), of(60, 250), of(0, 1)};
            case "sheet": return new int[] {s, of(-1, 2), lot.nextBoolean() ? of(0, 40) : lot.nextInt(7)};
            case "cell": return new int[] {s, of(0, 9), lot.nextInt(3) == 0 ? of(-1, 70000) : lot.nextBoolean() ? pulled() : of(0, 5)};
            case "copy": return new int[] {s, of(0, 6), of(0, 3), of(0, 6), of(0, 6)};
            case "pulls": return new int[] {s, of(0, 2), of(0, 3), of(0, 2)};
            case "taken": return new int[] {of(0, 19), of(0, 6)};
            case "judge": case "laws": case "which": case "film": return new int[] {s};
            default: return new int[0];
        }
    }
}
