import java.io.IOException;
import java.lang.reflect.Method;
import java.lang.reflect.Modifier;
import java.net.URL;
import java.net.URLClassLoader;
import java.nio.file.Files;
import java.nio.file.Path;
import java.util.ArrayList;
import java.util.List;
import java.util.TreeSet;
import java.util.regex.Matcher;
import java.util.regex.Pattern;
import java.util.stream.Stream;
import javax.tools.JavaCompiler;
import javax.tools.ToolProvider;

/**
 * What README.md shows holds: its examples are compiled and run, each line with an answer behind it is looked at, and
 * its tables name each method and each test once.
 */
public final class ReadmeTests {

    /** A line of an example with an answer: the statement, and the answer up to a colon. */
    private static final Pattern ANSWERED = Pattern.compile("(.*\\S);\\s*// (throws \\w+|[^:]*\\S)(: .*)?");
    private static final Pattern DECLARED = Pattern.compile("\\w+ (\\w+) = .*");
    private static final List<String> CHANGES = List.of("resize", "scatter", "setHeight", "raise", "setRain", "setSoak",
            "setOutlet", "setThreshold", "execute", "fillLake", "carveLake", "restore");
    private static final List<String> OTHER_CALLS = List.of("append", "undo", "save");

    private static int looked = 0;
    private static int failed = 0;

    private static void need(boolean isRight, String what) {
        if (!isRight) {
            failed++;
            System.out.println(what);
        }
    }

    /** Called by the examples. */
    public static void due(int line, String statement, Object got, String want) {
        looked++;
        need(want.equals(String.valueOf(got)), "README.md, line " + line + ": " + statement + " answers " + got
                + ", not " + want);
    }

    public static void main(String[] args) throws Exception {
        List<String> readme = Files.readAllLines(Path.of("README.md"));
        int examples = runExamples(readme);
        need(examples >= 6, "only " + examples + " examples");
        checkMethods(readme);
        checkTests(readme);
        System.out.println(examples + " examples of README.md with " + looked + " answers, " + failed + " faults");
        if (failed != 0) {
            System.exit(1);
        }
    }

    private static int runExamples(List<String> readme) throws Exception {
        StringBuilder source = new StringBuilder("public final class Examples {\n");
        int examples = 0;
        boolean isWithin = false;
        for (int k = 0; k < readme.size(); k++) {
            String line = readme.get(k);
            if (line.equals("```java")) {
                isWithin = true;
                source.append("public static void example").append(examples++).append("() {\n");
            } else if (line.equals("```")) {
                source.append(isWithin ? "}\n" : "");
                isWithin = false;
            } else if (isWithin) {
                source.append(checked(line, k + 1));
            }
        }
        Class<?> made = compiled(source.append("}\n").toString());
        for (int k = 0; k < examples; k++) {
            made.getMethod("example" + k).invoke(null);
        }
        return examples;
    }

    private static String checked(String line, int number) {
        Matcher answered = ANSWERED.matcher(line);
        if (!answered.matches()) {
            need(!line.contains("//"), "README.md, line " + number + ": an answer that can't be read");
            return line + "\n";
        }
        String statement = answered.group(1);
        String want = answered.group(2);
        String call = "ReadmeTests.due(" + number + ", \"" + statement.replace("\"", "\\\"") + "\", ";
        if (want.startsWith("throws ")) {
            return "{ Object got; try { got = " + statement + "; } catch (RuntimeException e) { got = \"throws \""
                    + " + e.getClass().getSimpleName(); } " + call + "got, \"" + want + "\"); }\n";
        }
        Matcher declared = DECLARED.matcher(statement);
        String value = declared.matches() ? declared.group(1) : statement;
        return (declared.matches() ? line + "\n" : "") + call + value + ", \"" + want + "\");\n";
    }

    private static Class<?> compiled(String source) throws Exception {
        Path directory = Files.createTempDirectory("readme");
        Path file = directory.resolve("Examples.java");
        try {
            Files.writeString(file, source);
            JavaCompiler compiler = ToolProvider.getSystemJavaCompiler();
            int exit = compiler.run(null, null, null, "-cp", System.getProperty("java.class.path"), "-d",
                    directory.toString(), file.toString());
            need(exit == 0, "the examples of README.md can't be compiled:\n" + source);
            URL[] places = {directory.toUri().toURL()};
            // The loader stays open: its only class is used until the program ends.
            return Class.forName("Examples", true, new URLClassLoader(places, ReadmeTests.class.getClassLoader()));
        } finally {
            remove(directory);
        }
    }

    private static void remove(Path directory) throws IOException {
        try (Stream<Path> files = Files.list(directory)) {
            for (Path file : files.toList()) {
                Files.delete(file);
            }
        }
        Files.delete(directory);
    }

    /** The names in the first column of the table whose heading begins with a word. */
    private static List<String> named(List<String> readme, String heading) {
        List<String> names = new ArrayList<>();
        boolean isWithin = false;
        for (String line : readme) {
            isWithin = line.startsWith("| " + heading + " |") || isWithin && line.startsWith("|");
            Matcher name = Pattern.compile("\\| `(\\w+).*").matcher(line);
            if (isWithin && name.matches()) {
                names.add(name.group(1));
            }
        }
        return names;
    }

    private static void checkMethods(List<String> readme) {
        List<String> names = named(readme, "question");
        names.addAll(CHANGES);
        names.addAll(OTHER_CALLS);
        TreeSet<String> face = new TreeSet<>();
        for (Method method : WatershedMapper.class.getDeclaredMethods()) {
            if (Modifier.isPublic(method.getModifiers())) {
                face.add(method.getName());
            }
        }
        need(named(readme, "change").size() == CHANGES.size() && named(readme, "change").containsAll(CHANGES),
                "README.md names other changes: " + named(readme, "change"));
        need(named(readme, "call").equals(OTHER_CALLS), "README.md names other calls: " + named(readme, "call"));
        need(names.size() == face.size() && face.containsAll(names), "README.md names other methods: " + names);
    }

    private static void checkTests(List<String> readme) throws IOException {
        TreeSet<String> tests = new TreeSet<>();
        try (Stream<Path> files = Files.list(Path.of("src/test/java"))) {
            for (Path file : files.toList()) {
                tests.add(file.getFileName().toString().replace(".java", ""));
            }
        }
        List<String> names = named(readme, "test");
        need(names.size() == tests.size() && tests.containsAll(names), "README.md names other tests: " + names);
    }
}
