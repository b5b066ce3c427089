import java.io.IOException;
import java.lang.reflect.Method;
import java.lang.reflect.Modifier;
import java.net.URL;
import java.net.URLClassLoader;
import java.nio.file.DirectoryStream;
import java.nio.file.Files;
import java.nio.file.Path;
import java.util.Set;
import java.util.TreeSet;
import java.util.regex.Matcher;
import java.util.regex.Pattern;
import javax.tools.JavaCompiler;
import javax.tools.ToolProvider;

/** The example of README.md is compiled as it stands there, and each of its calls answers what stands behind it. */
public final class ReadmeTest {
    private static final Pattern LINE = Pattern.compile("(hall\\.\\w+\\(.*\\));\\s+// (-?\\d+): .*");
    private static final Due due = new Due("ReadmeTest");

    public static void main(String[] args) throws Exception {
        Path root = Path.of(args.length > 0 ? args[0] : ".");
        String readme = Files.readString(root.resolve("README.md"));
        Path folder = Files.createTempDirectory("readme");
        Path source = folder.resolve("ReadmeExample.java");
        Files.writeString(source, program(example(readme)));
        JavaCompiler javac = ToolProvider.getSystemJavaCompiler();
        int failed = javac == null ? -1 : javac.run(null, null, null, "-cp", System.getProperty("java.class.path"),
            "-d", folder.toString(), source.toString());
        due.is("the example compiles", failed, 0);
        if (failed == 0) {
            run(folder);
        }
        names(readme, root);
        for (String left : new String[] {"ReadmeExample.class", "ReadmeExample.java", ""}) {
            Files.deleteIfExists(folder.resolve(left));
        }
        due.end();
    }

    /** Called by the program that is made of the example. */
    public static void is(String call, long got, long want) {
        due.is(call, got, want);
    }

    private static String example(String readme) {
        int from = readme.indexOf("```java\n");
        int to = readme.indexOf("```", from + 3);
        return from < 0 || to < 0 ? "" : readme.substring(from + 8, to);
    }

    private static String program(String example) {
        StringBuilder b = new StringBuilder("public final class ReadmeExample {\n    public static void main() {\n");
        int answers = 0;
        for (String line : example.split("\n")) {
            Matcher m = LINE.matcher(line);
            if (m.matches()) {
                String call = m.group(1);
                b.append("ReadmeTest.is(\"").append(call).append("\", ").append(call).append(", ").append(m.group(2)).append(");\n");
                answers++;
            } else {
                due.is("an answer is told by: " + line, line.contains("//") ? 1 : 0, 0);
                b.append(line).append('\n');
            }
        }
        due.is("the example tells some answers", answers > 10 ? 1 : 0, 1);
        return b.append("    }\n}\n").toString();
    }

    private static void run(Path folder) throws IOException, ReflectiveOperationException {
        URL[] at = {folder.toUri().toURL()};
        try (URLClassLoader loader = new URLClassLoader(at, ReadmeTest.class.getClassLoader())) {
            Method main = loader.loadClass("ReadmeExample").getMethod("main");
            main.invoke(null);
        }
    }

    /** The page names each call of the face, and each test there is. */
    private static void names(String readme, Path root) throws IOException {
        Set<String> all = new TreeSet<>();
        for (Method m : NumbersCalled.class.getDeclaredMethods()) {
            if (Modifier.isPublic(m.getModifiers())) {
                all.add(m.getName());
            }
        }
        try (DirectoryStream<Path> tests = Files.newDirectoryStream(root.resolve("src/test/java"), "*Test.java")) {
            tests.forEach(test -> all.add(test.getFileName().toString().replace(".java", "")));
        }
        for (String name : all) {
            due.is("README.md names " + name, readme.contains("`" + name + "`") ? 1 : 0, 1);
        }
    }
}
