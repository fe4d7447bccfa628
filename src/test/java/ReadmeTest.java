import java.io.IOException;
import java.net.URL;
import java.net.URLClassLoader;
import java.nio.file.Files;
import java.nio.file.Path;
import java.util.ArrayList;
import java.util.List;
import java.util.Set;
import java.util.TreeSet;
import java.util.regex.Matcher;
import java.util.regex.Pattern;
import java.util.stream.Stream;
import javax.tools.ToolProvider;

/** What README.md says is so. It is looked for in the directory in which the test is run. */
public final class ReadmeTest {
    private static final Checks CHECKS = new Checks();
    private static final Path README = Path.of("README.md");
    private static final Path TESTS = Path.of("src/test/java");

    /** A call of the example, and the answer at the head of its comment. */
    private static final Pattern ROW = Pattern.compile("(x\\..*\\)); *// (-?\\d+)\\b.*");
    private static final Pattern TEST_NAME = Pattern.compile("`([A-Z]\\w*)`");

    private static List<String> example(List<String> readme) {
        List<String> rest = readme.subList(readme.indexOf("```java") + 1, readme.size());
        return rest.subList(0, rest.indexOf("```"));
    }

    private static void theExampleAnswers(List<String> example) throws Exception {
        List<String> calls = new ArrayList<>();
        List<Integer> due = new ArrayList<>();
        for (String line : example.subList(1, example.size())) {
            Matcher row = ROW.matcher(line);
            CHECKS.due("README.md: \"" + line + "\" tells an answer,", row.matches() ? 1 : 0, 1);
            if (row.matches()) {
                calls.add(row.group(1));
                due.add(Integer.valueOf(row.group(2)));
            }
        }
        int[] answers = answers(example.get(0), calls);
        for (int call = 0; call < answers.length; call++) {
            CHECKS.due("README.md: " + calls.get(call), answers[call], due.get(call));
        }
    }

    /** The calls are compiled as they stand, so that the example is good Java as well. */
    private static int[] answers(String firstLine, List<String> calls) throws Exception {
        String source = "public final class Example { public static int[] answers() { " + firstLine
                + " return new int[] {" + String.join(", ", calls) + "}; } }";
        Path made = Files.createTempDirectory("readme");
        Path file = Files.writeString(made.resolve("Example.java"), source);
        int failed = ToolProvider.getSystemJavaCompiler().run(null, null, null,
                "-cp", System.getProperty("java.class.path"), "-d", made.toString(), file.toString());
        CHECKS.due("README.md: compiling the example", failed, 0);
        try (URLClassLoader loader = new URLClassLoader(new URL[] {made.toUri().toURL()})) {
            return (int[]) loader.loadClass("Example").getMethod("answers").invoke(null);
        }
    }

    private static void theTestsAreNamed(List<String> section) throws IOException {
        Set<String> named = new TreeSet<>();
        for (String line : section) {
            Matcher name = TEST_NAME.matcher(line);
            while (name.find()) {
                named.add(name.group(1));
            }
        }
        Set<String> present = new TreeSet<>();
        try (Stream<Path> files = Files.list(TESTS)) {
            files.forEach(file -> present.add(file.getFileName().toString().replace(".java", "")));
        }
        CHECKS.due("README.md names " + named + ", there are " + present + ": the same,",
                named.equals(present) ? 1 : 0, 1);
    }

    private static void theWayToRunThemIsThere(List<String> section) {
        CHECKS.due("README.md: .ci/run is named", section.contains("    .ci/run") ? 1 : 0, 1);
        CHECKS.due("README.md: .ci/run can be run", Files.isExecutable(Path.of(".ci/run")) ? 1 : 0, 1);
    }

    public static void main(String[] args) throws Exception {
        List<String> readme = Files.readAllLines(README);
        theExampleAnswers(example(readme));
        List<String> section = readme.subList(readme.indexOf("## Tests"), readme.size());
        theTestsAreNamed(section);
        theWayToRunThemIsThere(section);
        CHECKS.end();
    }
}
