import java.io.IOException;
import java.lang.reflect.InvocationTargetException;
import java.lang.reflect.Method;
import java.lang.reflect.Modifier;
import java.nio.file.Files;
import java.nio.file.Path;
import java.util.ArrayList;
import java.util.Arrays;
import java.util.Comparator;
import java.util.List;
import java.util.regex.Matcher;
import java.util.regex.Pattern;

/**
 * The edges: each method promiseNN_.. of the classes below is a test of its own, of promise NN, by the words
 * of the document that it says. What of the promises and of the terms no test says is told as a fault.
 */
public final class BoundsTest {
    private static final List<Class<?>> ALL = List.of(HallBounds.class, TextBounds.class, AskerBounds.class,
        DayBounds.class, BetterBounds.class, WhenBounds.class, PartsBounds.class, RollBounds.class, LotBounds.class,
        HostBounds.class);
    private static final Pattern NAME = Pattern.compile("promise(\\d\\d)_\\w+");
    private static final int PROMISES = 45;

    private static final List<List<String>> said = new ArrayList<>();

    public static void main(String[] args) throws Exception {
        for (int promise = 0; promise <= PROMISES; promise++) {
            said.add(new ArrayList<>());
        }
        int tests = 0;
        for (Class<?> c : ALL) {
            Method[] methods = c.getDeclaredMethods();
            Arrays.sort(methods, Comparator.comparing(Method::getName));
            for (Method m : methods) {
                if (m.getName().startsWith("promise")) {
                    run(m);
                    tests++;
                }
            }
        }
        words(Path.of(args.length > 0 ? args[0] : "."));
        System.out.print(tests + " tests: ");
        Bounds.end();
    }

    private static void run(Method m) throws IllegalAccessException {
        Bounds.begin(m.getName());
        Matcher name = NAME.matcher(m.getName());
        Says says = m.getAnnotation(Says.class);
        boolean fits = name.matches() && says != null && Modifier.isStatic(m.getModifiers());
        if (!fits) {
            Bounds.yes("is named by its promise, and says words of the document", false);
            return;
        }
        said.get(Integer.parseInt(name.group(1))).addAll(List.of(says.value()));
        try {
            m.invoke(null);
        } catch (InvocationTargetException e) {
            Bounds.yes("threw " + e.getCause(), false);
        }
        Bounds.yes("looks at an answer", Bounds.looked() > 0);
    }

    /** What is said stands in the promise or in the terms; and all that stands there is said. */
    private static void words(Path root) throws IOException {
        String doc = Files.readString(root.resolve("../shared/DOC.md")).replaceAll("\\s+", " ");
        String terms = between(doc, "## Terms", "Ahead of the calls").replaceAll("={4,} \\d |```(text)?", "");
        boolean[] termsSaid = new boolean[terms.length()];
        for (int promise = 1; promise <= PROMISES; promise++) {
            Bounds.begin("promise " + promise);
            String end = promise < PROMISES ? "## Promise " + (promise + 1) + ":" : "## Not promised";
            String text = between(doc, "## Promise " + promise + ":", end);
            text = text.substring(text.indexOf("`: ") + 3);
            boolean[] textSaid = new boolean[text.length()];
            for (String words : said.get(promise)) {
                boolean stands = mark(text, words, textSaid) | mark(terms, words, termsSaid);
                Bounds.yes("the document says \"" + words + "\"", stands);
            }
            Bounds.is("nothing of it is left without a test: " + left(text, textSaid), left(text, textSaid).length(), 0);
        }
        Bounds.begin("terms");
        Bounds.is("nothing of them is left without a test: " + left(terms, termsSaid), left(terms, termsSaid).length(), 0);
    }

    private static String between(String doc, String from, String to) {
        int start = doc.indexOf(from);
        int end = start < 0 ? -1 : doc.indexOf(to, start);
        return end < 0 ? "" : doc.substring(start + from.length(), end);
    }

    private static boolean mark(String text, String words, boolean[] isSaid) {
        boolean stands = false;
        for (int at = text.indexOf(words); at >= 0; at = text.indexOf(words, at + 1)) {
            Arrays.fill(isSaid, at, at + words.length(), true);
            stands = true;
        }
        return stands;
    }

    /** What is not said, but for signs and blanks. */
    private static String left(String text, boolean[] isSaid) {
        StringBuilder b = new StringBuilder();
        for (int i = 0; i < text.length(); i++) {
            b.append(isSaid[i] ? '|' : text.charAt(i));
        }
        return b.toString().replaceAll("[^\\w]*\\|[^\\w]*", "|").replaceAll("\\|+", "|").replaceAll("^\\||\\|$", "").trim();
    }
}
