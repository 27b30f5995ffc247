import java.io.IOException;
import java.io.UncheckedIOException;
import java.lang.reflect.Method;
import java.nio.file.Files;
import java.nio.file.Path;
import java.util.Arrays;
import java.util.List;
import java.util.regex.Matcher;
import java.util.regex.Pattern;
import java.util.stream.Stream;

/** README.md: what it shows of calls and their answers is so, and it names every call and every test. */
public final class ReadmeTest {
    private static final Due due = new Due("ReadmeTest");
    private static final Pattern TEXT = Pattern.compile("String text = \"([^\"]*)\";.*");
    private static final Pattern CALL = Pattern.compile("rows\\.(\\w+)\\((.*)\\); *// (-?\\d+)\\b.*");
    private static final Pattern LOOSE = Pattern.compile("(MutantRows rows = new MutantRows\\(\\);"
            + "|rows\\.sheet\\(0, 0, text\\.length\\(\\)\\);.*|for \\(int i = 0; i < text\\.length\\(\\); i\\+\\+\\) \\{"
            + "|    rows\\.put\\(0, i, text\\.charAt\\(i\\)\\);|\\})");

    private final MutantRows rows = new MutantRows();
    private String text = "";
    private int shown;

    public static void main(String[] args) throws IOException {
        List<String> page = Files.readAllLines(Path.of("README.md"));
        new ReadmeTest().examples(page);
        names(String.join("\n", page));
        due.end();
    }

    /** The blocks of Java are one run of calls on one object. */
    private void examples(List<String> page) {
        boolean code = false;
        for (String line : page) {
            if (line.startsWith("```")) {
                code = line.equals("```java");
            } else if (code) {
                example(line);
            }
        }
        due.is("are there answers on the page", shown > 20 ? 1 : 0, 1);
    }

    private void example(String line) {
        Matcher told = TEXT.matcher(line);
        Matcher call = CALL.matcher(line);
        if (told.matches()) {
            text = told.group(1);
            Due.fill(rows, 0, 0, text.chars().toArray());
        } else if (call.matches()) {
            shown++;
            due.is("README.md: " + line, answer(call.group(1), call.group(2)), Long.parseLong(call.group(3)));
        } else {
            due.is("README.md shows what is not looked at: " + line, LOOSE.matcher(line).matches() ? 1 : 0, 1);
        }
    }

    private long answer(String name, String args) {
        String numbers = args.replace("text.length()", Integer.toString(text.length()));
        int[] told = Stream.of(numbers.split(", ")).filter(one -> !one.isEmpty()).mapToInt(Integer::parseInt).toArray();
        Method call = Arrays.stream(Calls.methods(MutantRows.class)).filter(m -> m.getName().equals(name)).findFirst()
                .orElseThrow(() -> new IllegalStateException("no call " + name));
        return Calls.answer(call, rows, told);
    }

    private static void names(String page) {
        for (Method call : Calls.methods(MutantRows.class)) {
            due.is("README.md names " + call.getName(), page.contains("`" + call.getName() + "`") ? 1 : 0, 1);
        }
        try (Stream<Path> tests = Files.list(Path.of("src/test/java"))) {
            tests.map(file -> file.getFileName().toString()).filter(name -> name.endsWith("Test.java"))
                    .map(name -> name.replace(".java", ""))
                    .forEach(name -> due.is("README.md names " + name, page.contains("| `" + name + "` |") ? 1 : 0, 1));
        } catch (IOException e) {
            throw new UncheckedIOException(e);
        }
    }
}
