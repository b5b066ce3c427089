import java.lang.reflect.InvocationTargetException;
import java.lang.reflect.Method;
import java.lang.reflect.Modifier;
import java.util.ArrayList;
import java.util.Arrays;
import java.util.Comparator;
import java.util.List;
import java.util.Random;

/** Every call with arguments at and beyond all edges, in an empty, a full and some other halls. */
public final class EdgeTest {
    private static final Due due = new Due("EdgeTest");
    private static final int[] EDGES = {Integer.MIN_VALUE, -1000, -3, -2, -1, 0, 1, 2, 3, 4, 5, 6, 7, 8, 9, 10, 12, 13, 14,
        15, 16, 19, 20, 21, 37, 38, 39, 40, 41, 99, 100, 101, 119, 120, 121, 255, 256, 999, 1000, 1001, 1010, 3999, 4000, 4010,
        99999, 100000, Integer.MAX_VALUE - 1, Integer.MAX_VALUE};
    private static final int HALLS = 6;
    private static final int CALLS_OF_ONE = 60;

    private static NumbersCalled x;
    private static Model m;
    private static final Random lot = new Random(1);

    public static void main(String[] args) throws Exception {
        List<Method> calls = new ArrayList<>();
        for (Method call : NumbersCalled.class.getDeclaredMethods()) {
            if (Modifier.isPublic(call.getModifiers())) {
                calls.add(call);
            }
        }
        calls.sort(Comparator.comparing(Method::getName));
        for (int hall = 0; hall < HALLS; hall++) {
            for (Method call : calls) {
                open(hall);
                allEdges(hall, call);
            }
        }
        due.end();
    }

    private static void allEdges(int hall, Method call) throws Exception {
        Method model = Model.class.getDeclaredMethod(call.getName(), call.getParameterTypes());
        int n = call.getParameterCount();
        int rounds = n == 0 ? 1 : n == 1 ? EDGES.length : hall < 3 ? 400 : 200;
        for (int i = 0; i < rounds; i++) {
            if (i % CALLS_OF_ONE == CALLS_OF_ONE - 1) {
                open(hall);
            }
            Object[] in = new Object[n];
            for (int k = 0; k < n; k++) {
                // of several mostly small ones, or all calls are refused
                in[k] = n == 1 ? EDGES[i] : lot.nextInt(3) > 0 ? lot.nextInt(6) - 1 : EDGES[lot.nextInt(EDGES.length)];
            }
            same("hall " + hall + ": " + call.getName() + Arrays.toString(in), call, model, in);
        }
    }

    private static void same(String told, Method call, Method model, Object[] in) throws Exception {
        try {
            long got = ((Number) call.invoke(x, in)).longValue();
            due.is(told, got, ((Number) model.invoke(m, in)).longValue());
        } catch (InvocationTargetException e) {
            System.out.println(told + " threw " + e.getCause());
            due.is(told, 1, 0);
        }
    }

    /** 0: empty; 1: full of all; 2: full, crowded, nobody does all; 3 to 5: some. */
    private static void open(int hall) {
        x = new NumbersCalled();
        m = new Model();
        if (hall == 0) {
            return;
        }
        int counters = hall < 3 ? 4 : hall - 2;
        for (int c = 0; c < counters; c++) {
            int letters = hall == 2 ? 1 << c % 3 : 15 >> c % 2;
            x.counter(letters, c);
            m.counter(letters, c);
        }
        int askers = hall < 3 ? 16 : 3 * hall;
        for (int a = 0; a < askers; a++) {
            int what = 1000 * (a % 4) + 10 * (hall == 2 ? 40 + a : 1 + 7 * a % 99) + 9 - a % 10;
            int minute = hall == 2 ? a / 4 : 119 - 7 * a;
            x.pull(a % 6, what, minute);
            m.pull(a % 6, what, minute);
        }
        for (int t = 1; t < (hall < 3 ? 6 : hall - 1); t++) {
            text("takes base-" + t + "*slow;waits 20*" + t + "+more;minds wait-said*" + t + ";");
        }
        for (int s = 0; s < 4 && hall < 5; s++) {
            int size = s == 0 ? askers : hall == 1 ? 40 : 5 * s;
            x.sheet(s, s % 3, size);
            m.sheet(s, s % 3, size);
        }
        if (hall < 4) {
            x.film(0);
            m.film(0);
            x.image();
            m.image();
        }
    }

    private static void text(String text) {
        Due.feed(x, text);
        for (char c : text.toCharArray()) {
            m.feed(1, c, 0, 0, 0, 0);
        }
        due.is("text", x.text(), m.text());
    }
}
