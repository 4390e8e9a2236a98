import java.io.IOException;
import java.lang.reflect.Method;
import java.lang.reflect.Modifier;
import java.nio.charset.StandardCharsets;
import java.nio.file.Files;
import java.nio.file.Path;
import java.util.ArrayList;
import java.util.List;
import java.util.TreeSet;
import java.util.regex.Matcher;
import java.util.regex.Pattern;

/** What README.md says of the use of the class and of its tests holds word for word. */
public final class ReadmeTest {
    private static final Path TESTS = Path.of("src/test/java");

    public static void main(String[] args) throws Exception {
        String readme = Files.readString(Path.of("README.md"));
        example(readme);
        calls(readme);
        tests(readme);
        Check.end("ReadmeTest");
    }

    private static void example(String readme) throws Exception {
        String source = Files.readString(Path.of("src/example/java/Example.java"));
        Check.same("the example in README.md", block(readme, "java"), source);
        String printed = "";
        for (String command : block(readme, "sh").split("\n")) {
            printed = run(command);
        }
        Check.same("what the example prints", printed, block(readme, "text"));
    }

    /** Every call is told, and no other one, each at one place alone. */
    private static void calls(String readme) {
        List<String> told = new ArrayList<>();
        for (String line : section(readme, "### Calls").split("\n")) {
            if (line.startsWith("| ")) told.addAll(words(line, "\\w+"));
        }
        TreeSet<String> face = new TreeSet<>();
        for (Method method : KeyTour.class.getDeclaredMethods()) {
            if (Modifier.isPublic(method.getModifiers())) face.add(method.getName());
        }
        Check.same("the calls in README.md", new TreeSet<>(told), face);
        Check.is("the number of calls in README.md", told.size(), face.size());
    }

    private static void tests(String readme) throws IOException {
        TreeSet<String> there = new TreeSet<>();
        try (var files = Files.newDirectoryStream(TESTS, "*Test.java")) {
            for (Path file : files) there.add(file.getFileName().toString().replace(".java", ""));
        }
        String section = section(readme, "## How to run its tests");
        Check.same("the tests in README.md", new TreeSet<>(words(section, "\\w+Test")), there);
        String command = block(section, "sh").trim();
        Check.same("the command that runs the tests", command, ".ci/run");
        Check.same("it can be run", Files.isExecutable(Path.of(command)), true);
    }

    /** The first block of a kind. */
    private static String block(String text, String kind) {
        Matcher matcher = Pattern.compile("(?sm)^```" + kind + "\n(.*?)^```$").matcher(text);
        return matcher.find() ? matcher.group(1) : "no block of " + kind;
    }

    private static String section(String text, String head) {
        int from = text.indexOf("\n" + head + "\n");
        if (from < 0) return "no section " + head;
        int to = text.indexOf("\n## ", from + 1);
        return text.substring(from, to < 0 ? text.length() : to);
    }

    private static List<String> words(String text, String form) {
        List<String> words = new ArrayList<>();
        Matcher matcher = Pattern.compile("`(" + form + ")`").matcher(text);
        while (matcher.find()) words.add(matcher.group(1));
        return words;
    }

    /** What a command without quotes prints, errors too. */
    private static String run(String command) throws Exception {
        Process process = new ProcessBuilder(command.split(" ")).redirectErrorStream(true).start();
        String printed = new String(process.getInputStream().readAllBytes(), StandardCharsets.ISO_8859_1);
        Check.is("the exit code of " + command, process.waitFor(), 0);
        return printed;
    }
}
