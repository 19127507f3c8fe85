import java.io.ByteArrayOutputStream;
import java.io.IOException;
import java.io.PrintStream;
import java.lang.reflect.Method;
import java.lang.reflect.Modifier;
import java.nio.file.Files;
import java.nio.file.Path;
import java.util.ArrayList;
import java.util.List;
import java.util.regex.Matcher;
import java.util.regex.Pattern;

/** README.md says what the class answers, and names each of its calls. */
public final class ReadmeTest {
    private static final Path README = Path.of("README.md");
    private static final Path EXAMPLE = Path.of("src", "test", "java", "ReadmeExample.java");
    private static final Pattern ANSWER = Pattern.compile("System\\.out\\.println\\(.*\\); *// (-?\\d+).*");
    /** A row of README's table of calls: the call in its first column, what it answers without one in its last. */
    private static final Pattern CALL = Pattern.compile("\\| `(\\w+)\\((.*)\\)` \\|.*\\|(.*)\\|");

    public static void main(String[] args) {
        Sentences.run(ReadmeTest.class);
    }

    private static List<String> lines(Path file) {
        try {
            return Files.readAllLines(file);
        } catch (IOException unread) {
            throw new IllegalStateException(unread);
        }
    }

    /** The lines between the first and the second of these, without what stands ahead of each and blank ones. */
    private static List<String> between(Path file, String begin, String end) {
        List<String> found = new ArrayList<>();
        boolean inside = false;
        for (String line : lines(file)) {
            String text = line.strip();
            if (inside && text.equals(end)) {
                return found;
            }
            if (inside && !text.isEmpty()) {
                found.add(text);
            }
            inside = inside || text.equals(begin);
        }
        return found;
    }

    private static List<String> example() {
        return between(README, "```java", "```");
    }

    private static List<String> printed() {
        PrintStream screen = System.out;
        ByteArrayOutputStream kept = new ByteArrayOutputStream();
        System.setOut(new PrintStream(kept, true));
        ReadmeExample.run();
        System.setOut(screen);
        return kept.toString().lines().toList();
    }

    @Holds(under = "What it is", words = "what a frame, its tables and its scans are told to be, and where the bytes of each scan lie.")
    static void theExampleThatRunsIsThatOfReadme(Due due) {
        List<String> told = example();
        List<String> run = between(EXAMPLE, "// example", "// example");
        due.is("the example has lines", told.size() > 20, true);
        due.is("lines of the example", told.size(), run.size());
        for (int i = 0; i < Math.min(told.size(), run.size()); i++) {
            due.is("the same line: " + told.get(i), told.get(i).equals(run.get(i)), true);
        }
    }

    @Holds(under = "What it is", words = "what a frame, its tables and its scans are told to be, and where the bytes of each scan lie.")
    static void theExampleAnswersAsReadmeSays(Due due) {
        List<String> answers = printed();
        int next = 0;
        for (String line : example()) {
            Matcher said = ANSWER.matcher(line);
            if (said.matches() && next < answers.size()) {
                due.is(line, Long.parseLong(answers.get(next)), Long.parseLong(said.group(1)));
                next++;
            }
        }
        due.is("answers of the example", next, answers.size());
    }

    @Holds(under = "The public face", words = "public SegmentReader(); public boolean give(long v, int n);")
    static void eachCallHasARowInReadme(Due due) {
        List<String> told = new ArrayList<>();
        for (String line : lines(README)) {
            Matcher row = CALL.matcher(line);
            if (row.matches()) {
                int arguments = row.group(2).isEmpty() ? 0 : row.group(2).split(",").length;
                told.add(row.group(1) + "/" + arguments);
                due.is("says what " + row.group(1) + " answers without one", row.group(3).isBlank(), false);
            }
        }
        due.is("new SegmentReader() has a row", told.remove("SegmentReader/0"), true);
        for (Method call : SegmentReader.class.getDeclaredMethods()) {
            if (Modifier.isPublic(call.getModifiers())) {
                String name = call.getName() + "/" + call.getParameterCount();
                due.is(name + " has a row", told.remove(name), true);
            }
        }
        due.is("rows of no call " + told, told.size(), 0);
    }
}
