import java.io.IOException;
import java.nio.file.Files;
import java.nio.file.Path;
import java.util.ArrayList;
import java.util.BitSet;
import java.util.LinkedHashMap;
import java.util.List;
import java.util.Map;

/** What ../shared/DOC.md says, section by section, and which of its words a test has named. */
final class Sentences {
    private static final Path DOCUMENT = Path.of("../shared/DOC.md");
    private static final String HEAD = "## ";

    private final Map<String, String> texts = new LinkedHashMap<>();
    private final Map<String, BitSet> named = new LinkedHashMap<>();

    Sentences() throws IOException {
        if (!Files.exists(DOCUMENT)) {
            System.out.println("no " + DOCUMENT + ": the sentences that tests name are not looked up");
            return;
        }
        String section = "";
        for (String line : Files.readAllLines(DOCUMENT)) {
            if (line.startsWith(HEAD)) {
                section = line.substring(HEAD.length()).replaceAll("^(Promise \\d+):.*", "$1");
            } else {
                texts.merge(section, told(line), (ahead, more) -> (ahead + " " + more).trim());
            }
        }
        texts.forEach((name, text) -> named.put(name, new BitSet(text.length())));
    }

    /** What a line says; a call's face, marks of code and of parts say nothing that could be tested here. */
    private static String told(String line) {
        if (line.startsWith("Ahead of the calls ")) {
            return "";
        }
        return line.replaceAll("^`[^`]*`: ", "").replaceAll("^```.*", "").replaceAll("^==== \\d ", "").trim();
    }

    /** Marks words as named; why that can't be, or nothing. */
    String name(String section, String words) {
        if (texts.isEmpty()) {
            return "";
        }
        String text = texts.getOrDefault(section, "");
        int from = text.indexOf(words);
        if (from < 0) {
            return "the document does not say so";
        }
        if (text.indexOf(words, from + 1) >= 0) {
            return "the document says so more than once";
        }
        named.get(section).set(from, from + words.length());
        return "";
    }

    /** Words of the Terms and the promises that no test has named. */
    List<String> unnamed() {
        List<String> all = new ArrayList<>();
        texts.forEach((section, text) -> {
            if (section.equals("Terms") || section.startsWith("Promise ")) {
                addUnnamed(all, section, text);
            }
        });
        return all;
    }

    private void addUnnamed(List<String> all, String section, String text) {
        BitSet marks = named.get(section);
        int from = marks.nextClearBit(0);
        while (from < text.length()) {
            int to = marks.nextSetBit(from) < 0 ? text.length() : marks.nextSetBit(from);
            String words = text.substring(from, to);
            if (!words.isBlank()) {
                all.add(section + ": " + words.trim());
            }
            from = marks.nextClearBit(to);
        }
    }
}
