import java.io.IOException;
import java.lang.reflect.Method;
import java.lang.reflect.Modifier;
import java.net.URL;
import java.net.URLClassLoader;
import java.nio.file.Files;
import java.nio.file.Path;
import java.util.List;
import java.util.Map;
import java.util.TreeMap;
import java.util.TreeSet;
import java.util.regex.Matcher;
import java.util.regex.Pattern;
import java.util.stream.Stream;
import javax.tools.ToolProvider;

/**
 * What README.md shows is true: its examples are compiled as they stand there, and each call gives the
 * answer that is written behind it. It is run from the project's folder, as .ci/run does.
 */
public final class ReadmeTest {
    private static final Path README = Path.of("README.md");
    private static final Path TESTS = Path.of("src", "test", "java");
    private static final Path OUT = Path.of("build", "readme");
    private static final String NAME = "ReadmeExamples";
    // A statement, then its answer up to a colon; "throws X" is an answer too.
    private static final Pattern ANSWERED = Pattern.compile("(.*;)\\s+// ([^:]+)(:.*)?");
    private static final Pattern DECLARED = Pattern.compile("int (\\w+) = .*;");
    // What may stand in an example without an answer: a new heap, or the same call many times.
    private static final Pattern UNANSWERED = Pattern.compile("RingHeap heap = new RingHeap\\(\\);|for \\(.*");

    private ReadmeTest() {
    }

    public static void main(String[] args) throws Exception {
        Check.part("README");
        List<String> lines = Files.readAllLines(README);
        Map<Integer, String> due = new TreeMap<>();
        String source = examples(lines, due);
        Map<Integer, String> got = answers(source);
        for (Map.Entry<Integer, String> answer : due.entrySet()) {
            int line = answer.getKey();
            String given = String.valueOf(got.get(line));
            Check.holds("line " + line + ", " + lines.get(line - 1).strip() + " (answered " + given + "), as written",
                    given.equals(answer.getValue()));
        }
        allMethodsAreShown(source);
        allTestsAreNamed(String.join("\n", lines));
        Check.end();
    }

    /** The source of a class that makes the calls of each example; into due, each line's answer. */
    private static String examples(List<String> lines, Map<Integer, String> due) {
        StringBuilder source = new StringBuilder("public final class " + NAME + " {\n"
                + "public static void run(java.util.Map<Integer, String> got) {\n");
        boolean inside = false;
        for (int i = 0; i < lines.size(); i++) {
            String line = lines.get(i).strip();
            if (line.startsWith("```")) {
                source.append(inside ? "}\n" : line.equals("```java") ? "{\n" : "");
                inside = !inside && line.equals("```java");
            } else if (inside) {
                source.append(statement(i + 1, line, due)).append("\n");
            }
        }
        return source.append("}\n}\n").toString();
    }

    private static String statement(int number, String line, Map<Integer, String> due) {
        Matcher answered = ANSWERED.matcher(line);
        if (!answered.matches()) {
            Check.holds("line " + number + ", " + line + ": a call has an answer behind it",
                    UNANSWERED.matcher(line).matches());
            return line;
        }
        String call = answered.group(1);
        String answer = answered.group(2).strip();
        due.put(number, answer.equals("NONE") ? "-1" : answer.equals("FULL") ? "-2" : answer);
        Matcher declared = DECLARED.matcher(call);
        if (declared.matches()) {
            return call + " got.put(" + number + ", \"\" + " + declared.group(1) + ");";
        }
        return "try { got.put(" + number + ", \"\" + " + call.substring(0, call.length() - 1) + "); }"
                + " catch (RuntimeException e) { got.put(" + number + ", \"throws \" + e.getClass().getSimpleName()); }";
    }

    private static Map<Integer, String> answers(String source) throws Exception {
        Files.createDirectories(OUT);
        Path file = OUT.resolve(NAME + ".java");
        Files.writeString(file, source);
        int failed = ToolProvider.getSystemJavaCompiler().run(null, null, null,
                "-cp", System.getProperty("java.class.path"), "-d", OUT.toString(), file.toString());
        Check.same("exit code of javac over the examples", failed, 0);
        Map<Integer, String> got = new TreeMap<>();
        if (failed == 0) {
            try (URLClassLoader loader = new URLClassLoader(new URL[] {OUT.toUri().toURL()})) {
                loader.loadClass(NAME).getMethod("run", Map.class).invoke(null, got);
            }
        }
        return got;
    }

    private static void allMethodsAreShown(String source) {
        for (Method m : RingHeap.class.getDeclaredMethods()) {
            if (Modifier.isPublic(m.getModifiers())) {
                Check.holds("an example of " + m.getName(), source.contains("heap." + m.getName() + "("));
            }
        }
    }

    private static void allTestsAreNamed(String readme) throws IOException {
        TreeSet<String> there = new TreeSet<>();
        try (Stream<Path> files = Files.list(TESTS)) {
            files.map(file -> file.getFileName().toString()).filter(name -> name.endsWith("Test.java"))
                    .forEach(name -> there.add(name.substring(0, name.length() - ".java".length())));
        }
        TreeSet<String> named = new TreeSet<>();
        Matcher test = Pattern.compile("`(\\w+Test)`").matcher(readme);
        while (test.find()) {
            named.add(test.group(1));
        }
        Check.holds("the tests that it names, " + named + ", are those that are there, " + there, named.equals(there));
    }
}
