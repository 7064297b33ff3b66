import java.io.IOException;
import java.lang.reflect.Method;
import java.lang.reflect.Modifier;
import java.net.URL;
import java.net.URLClassLoader;
import java.nio.file.Files;
import java.nio.file.Path;
import java.util.ArrayList;
import java.util.Collections;
import java.util.Comparator;
import java.util.List;
import java.util.regex.Matcher;
import java.util.regex.Pattern;
import java.util.stream.Stream;
import javax.tools.ToolProvider;

/** What README.md says: its example runs, and it tells every call and every test. */
public final class ReadmeTest {
    private static final Path README = Path.of("README.md");
    private static final Path TESTS = Path.of("src/test/java");

    /** A line of the example: a name for the answer or none, the call, what it answers, and why. */
    private static final Pattern ASKED = Pattern.compile(
            "(?:int (\\w+) = )?(desk\\.\\w+\\(.*\\)); *// (-?[0-9.]+|throws \\w+)(?:: .+)?");
    private static final Pattern UNASKED = Pattern.compile("//.*|PactClocks desk = new PactClocks\\(\\);|");

    private final Due due = new Due();
    private final String readme;

    private ReadmeTest(String text) {
        readme = text;
    }

    public static void main(String[] args) throws Exception {
        ReadmeTest test = new ReadmeTest(Files.readString(README));
        test.example();
        test.calls();
        test.tests();
        test.due.holds("README.md says how to run the tests", test.readme.contains("    .ci/run\n"));
        test.due.end(0, -1);
    }

    /** Compiles the example, runs it, and compares what it answers with what README.md says. */
    private void example() throws Exception {
        List<String> asked = new ArrayList<>();
        List<String> want = new ArrayList<>();
        StringBuilder body = new StringBuilder();
        for (String line : exampleLines()) {
            Matcher call = ASKED.matcher(line);
            if (call.matches()) {
                asked.add(line);
                want.add(call.group(3));
                body.append(statement(call.group(1), call.group(2)));
            } else {
                due.holds("a line of the example tells an answer: " + line, UNASKED.matcher(line).matches());
                body.append(line).append('\n');
            }
        }
        due.holds("the example asks something", asked.size() >= 20);
        List<?> got = run(body.toString());
        due.holds("each call answers", got.size() == asked.size());
        for (int i = 0; i < Math.min(got.size(), asked.size()); i++) {
            due.holds(asked.get(i) + " answered " + got.get(i), got.get(i).equals(want.get(i)));
        }
    }

    private List<String> exampleLines() {
        List<String> lines = new ArrayList<>();
        for (Matcher block = Pattern.compile("(?s)```java\n(.*?)```").matcher(readme); block.find();) {
            lines.addAll(List.of(block.group(1).split("\n")));
        }
        return lines;
    }

    /** A call of the example, with its answer or the name of its exception added to a list. */
    private static String statement(String name, String call) {
        if (name != null) {
            return "int " + name + " = " + call + "; got.add(String.valueOf(" + name + "));\n";
        }
        return "try { got.add(String.valueOf(" + call + ")); } catch (RuntimeException e) { "
                + "got.add(\"throws \" + e.getClass().getSimpleName()); }\n";
    }

    private List<?> run(String body) throws Exception {
        Path folder = Files.createTempDirectory("readme");
        try {
            Path file = folder.resolve("Example.java");
            Files.writeString(file, "public final class Example {\n"
                    + "public static java.util.List<String> run() {\n"
                    + "java.util.List<String> got = new java.util.ArrayList<>();\n"
                    + body + "return got;\n}\n}\n");
            int failed = ToolProvider.getSystemJavaCompiler().run(null, null, null, "--release", "17",
                    "-cp", System.getProperty("java.class.path"), "-d", folder.toString(), file.toString());
            due.holds("the example compiles", failed == 0);
            if (failed != 0) {
                return List.of();
            }
            URL[] where = {folder.toUri().toURL()};
            try (URLClassLoader loader = new URLClassLoader(where, ReadmeTest.class.getClassLoader())) {
                return (List<?>) loader.loadClass("Example").getMethod("run").invoke(null);
            }
        } finally {
            remove(folder);
        }
    }

    private static void remove(Path folder) throws IOException {
        try (Stream<Path> all = Files.walk(folder)) {
            for (Path path : all.sorted(Comparator.reverseOrder()).toList()) {
                Files.delete(path);
            }
        }
    }

    /** The table of calls tells each one of the face, with as many arguments as it takes. */
    private void calls() {
        int seen = 0;
        for (Method method : PactClocks.class.getDeclaredMethods()) {
            if (Modifier.isPublic(method.getModifiers())) {
                seen++;
                String arguments = String.join(", ", Collections.nCopies(method.getParameterCount(), "\\w+"));
                String row = "(?m)^\\| `" + method.getName() + "\\(" + arguments + "\\)` \\| .+ \\|";
                due.holds("README.md tells " + method, Pattern.compile(row).matcher(readme).find());
            }
        }
        due.holds("the calls were seen: " + seen, seen == 29);
        Matcher rows = Pattern.compile("(?m)^\\| `\\w+\\(").matcher(readme);
        due.holds("README.md tells no other call", rows.results().count() == seen);
    }

    /** The table of tests tells each one that .ci/run runs, and no other. */
    private void tests() throws IOException {
        List<String> told = Pattern.compile("(?m)^\\| `(\\w+Test)` \\|").matcher(readme).results()
                .map(row -> row.group(1) + ".java").sorted().toList();
        try (Stream<Path> files = Files.list(TESTS)) {
            List<String> there = files.map(file -> file.getFileName().toString())
                    .filter(name -> name.endsWith("Test.java")).sorted().toList();
            due.holds("README.md tells the tests " + told + ", there are " + there, told.equals(there));
        }
    }
}
