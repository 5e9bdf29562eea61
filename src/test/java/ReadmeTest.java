import java.io.IOException;
import java.nio.file.Files;
import java.nio.file.Path;
import java.util.ArrayList;
import java.util.List;
import java.util.Set;
import java.util.TreeSet;
import java.util.regex.Matcher;
import java.util.regex.Pattern;
import java.util.stream.Stream;

/** What README.md shows of the use of the class, and the calls and tests that it names, is so. */
public final class ReadmeTest {
    private static final Check CHECK = new Check();
    private static String readme;

    public static void main(String[] args) throws IOException, InterruptedException {
        readme = Files.readString(Path.of("README.md"));
        exampleAnswersAsItsComments();
        rulesAreRead();
        allCallsAreNamed();
        allTestsAreNamed();
        CHECK.end();
    }

    private static void holds(String what, boolean so) {
        CHECK.same(what, so ? 1 : 0, 1);
    }

    /** All that the first group of the pattern finds. */
    private static List<String> found(String text, String pattern) {
        List<String> all = new ArrayList<>();
        Matcher matcher = Pattern.compile(pattern).matcher(text);
        while (matcher.find()) {
            all.add(matcher.group(1));
        }
        return all;
    }

    private static String block(String language) {
        List<String> blocks = found(readme, "(?s)```" + language + "\n(.*?)```");
        return blocks.isEmpty() ? "" : blocks.get(0);
    }

    private static void exampleAnswersAsItsComments() throws IOException, InterruptedException {
        List<String> due = found(block("java"), "println\\(.*\\); +// (-?\\d+):");
        List<String> got = runExample(block("java"));
        holds("the example tells something", !due.isEmpty());
        CHECK.same("lines that the example tells", got.size(), found(block("java"), "(println)").size());
        holds("the example tells " + got + ", its comments " + due, got.equals(due));
    }

    private static List<String> runExample(String example) throws IOException, InterruptedException {
        Path room = Files.createTempDirectory("readme");
        Path source = room.resolve("Example.java");
        Files.writeString(source, example);
        told("javac", "-d", room.toString(), "src/main/java/PremiumHours.java", source.toString());
        String answers = told("java", "-cp", room.toString(), "Example");
        try (Stream<Path> files = Files.list(room)) {
            for (Path left : files.toList()) {
                Files.delete(left);
            }
        }
        Files.delete(room);
        return answers.lines().toList();
    }

    /** What a command tells: it has to end well. */
    private static String told(String... command) throws IOException, InterruptedException {
        Process process = new ProcessBuilder(command).redirectError(ProcessBuilder.Redirect.INHERIT).start();
        String text = new String(process.getInputStream().readAllBytes());
        CHECK.same("exit code of " + String.join(" ", command), process.waitFor(), 0);
        return text;
    }

    private static void rulesAreRead() {
        List<String> lines = found(block("text"), "(?m)^([^;]*;) ");
        holds("README tells rules", lines.size() == 11);
        CHECK.same("all rules of README together", Desk.tell(new PremiumHours(), String.join("\n", lines)), 5);
        for (String line : lines) {
            holds("rule of README " + line, Desk.tell(new PremiumHours(), line) >= 0);
        }
    }

    private static void allCallsAreNamed() throws IOException {
        String source = Files.readString(Path.of("src/main/java/PremiumHours.java"));
        Set<String> calls = new TreeSet<>(found(source, "public int (\\w+\\(.*?\\))"));
        Set<String> named = new TreeSet<>(found(readme, "(?m)^\\| `(\\w+\\(.*?\\))` \\|"));
        CHECK.same("calls of the class", calls.size(), 22);
        holds("README names " + named + ", there are " + calls, named.equals(calls));
    }

    private static void allTestsAreNamed() throws IOException {
        Set<String> tests = new TreeSet<>();
        try (Stream<Path> files = Files.list(Path.of("src/test/java"))) {
            files.map(file -> file.getFileName().toString()).filter(name -> name.endsWith("Test.java"))
                .forEach(name -> tests.add(name.replace(".java", "")));
        }
        Set<String> named = new TreeSet<>(found(readme, "`(\\w+Test)`"));
        holds("README names " + named + ", there are " + tests, named.equals(tests));
    }
}
