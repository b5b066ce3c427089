import java.io.IOException;
import java.lang.reflect.Constructor;
import java.lang.reflect.Field;
import java.lang.reflect.Method;
import java.lang.reflect.Modifier;
import java.nio.file.Files;
import java.nio.file.Path;
import java.util.ArrayList;
import java.util.HashSet;
import java.util.List;
import java.util.Set;
import java.util.TreeSet;
import java.util.regex.Matcher;
import java.util.regex.Pattern;

/** The public face as the document tells it, and what of LANGUAGE.md can be seen by looking. */
public final class FaceTest {
    private static final Due due = new Due("FaceTest");
    private static Path root;

    public static void main(String[] args) throws Exception {
        root = Path.of(args.length > 0 ? args[0] : ".");
        face();
        constants();
        inside();
        text();
        due.end();
    }

    /** The lines of the document's public face, each as it is told there. */
    private static Set<String> toldFace() throws IOException {
        String doc = Files.readString(root.resolve("../shared/DOC.md"));
        String block = doc.substring(doc.indexOf("```java") + 7);
        Set<String> all = new TreeSet<>();
        for (String line : block.substring(0, block.indexOf("```")).split("\n")) {
            if (line.contains("(")) {
                String type = line.contains("NumbersCalled()") ? "" : line.trim().split(" ")[1] + " ";
                String name = line.trim().replaceAll("\\(.*", "").replaceAll(".* ", "");
                String in = line.substring(line.indexOf('(') + 1, line.indexOf(')'));
                all.add(type + name + "(" + in.replaceAll("(\\w+) \\w+", "$1") + ")");
            }
        }
        return all;
    }

    private static String named(Class<?>[] types) {
        List<String> names = new ArrayList<>();
        for (Class<?> t : types) {
            names.add(t.getName());
        }
        return String.join(", ", names);
    }

    private static void face() throws IOException {
        Set<String> told = toldFace();
        due.is("how many the document tells", told.size(), 45);
        Set<String> open = new TreeSet<>();
        Set<String> openNames = new HashSet<>();
        Set<String> hiddenNames = new HashSet<>();
        for (Method m : NumbersCalled.class.getDeclaredMethods()) {
            if (Modifier.isPublic(m.getModifiers())) {
                open.add(m.getReturnType() + " " + m.getName() + "(" + named(m.getParameterTypes()) + ")");
                openNames.add(m.getName());
                yes(m + " is of an object", !Modifier.isStatic(m.getModifiers()));
            } else {
                hiddenNames.add(m.getName());
                yes(m + " is private", Modifier.isPrivate(m.getModifiers()) || m.isSynthetic());
            }
            yes(m + " declares no exception", m.getExceptionTypes().length == 0);
        }
        for (Constructor<?> c : NumbersCalled.class.getDeclaredConstructors()) {
            open.add("NumbersCalled(" + named(c.getParameterTypes()) + ")");
            yes(c + " is public", Modifier.isPublic(c.getModifiers()));
        }
        yes("the face is " + told + ", not " + open, told.equals(open));
        for (Class<?> c : NumbersCalled.class.getDeclaredClasses()) {
            for (Method m : c.getDeclaredMethods()) {
                hiddenNames.add(m.getName());
            }
        }
        hiddenNames.retainAll(openNames);
        yes("private methods with public names: " + hiddenNames, hiddenNames.isEmpty());
        int m = NumbersCalled.class.getModifiers();
        yes("public final", Modifier.isPublic(m) && Modifier.isFinal(m));
    }

    private static void constants() {
        due.is("NONE", NumbersCalled.NONE, -1);
        due.is("BAD", NumbersCalled.BAD, -2);
        due.is("STATE", NumbersCalled.STATE, -3);
        due.is("FULL", NumbersCalled.FULL, -4);
        due.is("NO", NumbersCalled.NO, -4611686018427387904L);
        Set<String> open = new TreeSet<>();
        for (Field f : NumbersCalled.class.getDeclaredFields()) {
            int m = f.getModifiers();
            if (Modifier.isPublic(m)) {
                open.add(f.getType() + " " + f.getName());
                yes(f + " is a constant", Modifier.isStatic(m) && Modifier.isFinal(m));
            } else {
                yes(f + " is private", Modifier.isPrivate(m));
            }
        }
        yes("" + open, open.equals(Set.of("int NONE", "int BAD", "int STATE", "int FULL", "long NO")));
    }

    /** Rules 2, 5, 11: classes, statics, how many of them. */
    private static void inside() {
        List<Class<?>> all = new ArrayList<>(List.of(NumbersCalled.class.getDeclaredClasses()));
        all.add(NumbersCalled.class);
        yes("some twelve classes", all.size() <= 12);
        for (Class<?> c : all) {
            int fields = 0;
            for (Field f : c.getDeclaredFields()) {
                int m = f.getModifiers();
                if (!Modifier.isStatic(m)) {
                    fields++;
                } else {
                    yes(f + " is final", Modifier.isFinal(m));
                    yes(f + " is a constant", Set.of("int", "long", "boolean", "char", "class java.lang.String",
                            "class [I", "class [J", "class [C", "class [B").contains(f.getType().toString()));
                }
            }
            yes(c + " has some twenty fields", fields <= 20);
            yes(c + " is static", c == NumbersCalled.class || Modifier.isStatic(c.getModifiers()));
            yes(c + " is not open", c == NumbersCalled.class || !Modifier.isPublic(c.getModifiers()));
            for (Method m : c.getDeclaredMethods()) {
                yes(m + " has seven parameters at most", m.getParameterCount() <= 7);
            }
        }
    }

    private static void text() throws IOException {
        String whole = Files.readString(root.resolve("src/main/java/NumbersCalled.java"));
        for (int i = 0; i < whole.length(); i++) {
            char c = whole.charAt(i);
            if (c != '\n' && (c < 32 || c > 126)) {
                yes("a sign " + (int) c + " at " + i, false);
            }
        }
        String code = whole.replaceAll("(?s)/\\*.*?\\*/", " ").replaceAll("//[^\n]*", " ");
        String[] words = {"throw", "throws", "try", "catch", "finally", "synchronized", "assert", "import", "package",
            "instanceof", "null", "equals", "hashCode", "toString", "values", "Exact", "System.out", "Random", "Thread",
            "volatile", "native", "strictfp", "transient", "super", "double", "float", "var"};
        for (String word : words) {
            Matcher m = Pattern.compile("(?<!\\w)" + Pattern.quote(word) + "(?!\\w)").matcher(code);
            yes("no " + word, !m.find());
        }
        yes("no lambda", !code.contains("->"));
        yes("no method reference", !code.contains("::"));
        String noStrings = code.replaceAll("\"[^\"]*\"", "\"\"");
        Matcher library = Pattern.compile("\\b(Math|System|Integer|Long|Arrays|String|StringBuilder)\\b(\\.\\w+)?").matcher(noStrings);
        Set<String> used = new TreeSet<>();
        while (library.find()) {
            used.add(library.group());
        }
        yes("of the library: " + used, Set.of("Math.max", "System.arraycopy", "String").containsAll(used));
        methodsAreShort(noStrings);
        objectsAreMadeInConstructors(noStrings);
    }

    private static void methodsAreShort(String code) {
        String[] lines = code.split("\n");
        int from = -1;
        for (int i = 0; i < lines.length; i++) {
            String indent = lines[i].replaceAll("\\S.*", "");
            if (lines[i].trim().endsWith("{") && lines[i].contains("(") && indent.length() <= 8
                    && !lines[i].trim().matches("(if|for|while|switch|else|do)\\b.*")) {
                from = i;
            }
            if (from >= 0 && lines[i].equals(lines[from].replaceAll("\\S.*", "") + "}")) {
                yes(lines[from].trim() + " is short: " + (i - from), i - from <= 60);
                from = -1;
            }
        }
    }

    /** So no call makes an object: each new stands in a field's line or in the constructor. */
    private static void objectsAreMadeInConstructors(String code) {
        for (String line : code.split("\n")) {
            if (line.contains("new ")) {
                yes(line.trim(), line.matches("\\s+(private )?final .*= new [\\w]+(\\[.*\\]|\\(\\));")
                        || line.matches("\\s+(askers|texts|sheets)\\[\\w\\] = new \\w+\\(\\);"));
            }
        }
    }

    private static void yes(String what, boolean is) {
        due.is(what, is ? 1 : 0, 1);
    }
}
