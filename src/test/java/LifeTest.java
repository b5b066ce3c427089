import java.util.ArrayList;
import java.util.List;

/**
 * Promises 1 to 45 on one object up to its 512th call. Each answer is held against the model. A twin lives only
 * the calls that change something: in the last ones of a life, when it is asked too, it answers alike, so that
 * nothing that was only asked has changed anything.
 */
public final class LifeTest {
    private static final Due due = new Due("LifeTest");
    private static final int LIFE = 512, LAST = 150;

    public static void main(String[] args) {
        int lives = args.length > 1 ? Integer.parseInt(args[1]) : 60;
        for (int seed = 0; seed < lives && !due.isWrong(); seed++) {
            List<String> told = new ArrayList<>();
            live(seed, told);
            if (due.isWrong()) {
                System.out.println("seed " + seed + ":\n" + String.join("\n", told));
            }
        }
        due.end();
    }

    private static void live(int seed, List<String> told) {
        NumbersCalled x = new NumbersCalled();
        NumbersCalled twin = new NumbersCalled();
        Model m = new Model();
        Lot lot = new Lot(seed, m);
        for (int i = 1; i <= LIFE && !due.isWrong(); i++) {
            Script.Call c = lot.next();
            long got = c.on(x);
            String name = "seed " + seed + ", call " + i + ", " + c.told();
            told.add(c.told() + " = " + got);
            due.is(name, got, c.on(m));
            if (Lot.CHANGING.contains(c.name()) || i > LIFE - LAST) {
                due.is(name + ", of the twin", c.on(twin), got);
            }
        }
    }
}
