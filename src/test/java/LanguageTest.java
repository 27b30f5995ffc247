import java.io.IOException;
import java.lang.reflect.Constructor;
import java.lang.reflect.Field;
import java.lang.reflect.Method;
import java.lang.reflect.Modifier;
import java.nio.file.Files;
import java.nio.file.Path;
import java.util.ArrayList;
import java.util.Arrays;
import java.util.Collections;
import java.util.List;
import java.util.Set;
import java.util.TreeSet;
import java.util.regex.Matcher;
import java.util.regex.Pattern;

/** The face of the class, and those rules of LANGUAGE.md that can be seen from outside. */
public final class LanguageTest {
    private static final Due due = new Due("LanguageTest");
    private static final Path DOCUMENT = Path.of("../shared/DOC.md");

    private static final String[] FACE = {
        "int program(int, int, int, int)", "int ofStep(int, int)", "int ofTest(int, int)", "int output(int, int)",
        "int way(int, int)", "int time(int, int)", "int aim(int, int, int)", "int ofMutant(int, int)",
        "int state(int, int)", "int subsumes(int, int)", "int hardest()", "int day(int, int, int, int, int)",
        "int cover(int)", "int choose(int, int)", "long score(int)", "int reading(int)", "int back(int)",
        "int kinds(int)", "int ways(int)", "long odds(int, int)", "int sheet(int, int, int)", "int lose(int)",
        "int put(int, int, int)", "long cell(int, int, int)", "int copy(int, int, int, int, int)", "int tell(int)",
        "int log(int)", "int as(int, int)", "int trace()", "int fault()", "int many(int)",
    };

    public static void main(String[] args) throws IOException {
        face();
        constants();
        faceOfDocument();
        for (Class<?> type : types()) {
            members(type);
        }
        source(Files.readString(Path.of("src/main/java/MutantRows.java")));
        due.end();
    }

    private static void holds(String what, boolean so) {
        due.is(what, so ? 1 : 0, 1);
    }

    private static List<Class<?>> types() {
        List<Class<?>> all = new ArrayList<>(List.of(MutantRows.class));
        Collections.addAll(all, MutantRows.class.getDeclaredClasses());
        return all;
    }

    private static void face() {
        Set<String> found = new TreeSet<>();
        Set<String> hidden = new TreeSet<>();
        for (Method m : MutantRows.class.getDeclaredMethods()) {
            String parts = Arrays.toString(Arrays.stream(m.getParameterTypes()).map(Class::getName).toArray());
            String told = m.getReturnType() + " " + m.getName() + parts.replace('[', '(').replace(']', ')');
            (Modifier.isPrivate(m.getModifiers()) ? hidden : found).add(told);
            if (!Modifier.isPrivate(m.getModifiers())) {
                holds("public, not static: " + told, Modifier.isPublic(m.getModifiers()) && !Modifier.isStatic(m.getModifiers()));
            }
        }
        holds("the calls are " + found, found.equals(new TreeSet<>(Arrays.asList(FACE))));
        for (String told : hidden) {
            String name = told.substring(told.indexOf(' ') + 1, told.indexOf('('));
            holds("no public name: " + name, Arrays.stream(FACE).noneMatch(f -> f.contains(" " + name + "(")));
        }
        int modifiers = MutantRows.class.getModifiers();
        holds("the class is public and final", Modifier.isPublic(modifiers) && Modifier.isFinal(modifiers));
        Constructor<?>[] made = MutantRows.class.getDeclaredConstructors();
        holds("one public constructor", made.length == 1 && Modifier.isPublic(made[0].getModifiers())
                && made[0].getParameterCount() == 0);
    }

    private static void constants() {
        due.is("UNKNOWN", MutantRows.UNKNOWN, -1);
        due.is("OUTSIDE", MutantRows.OUTSIDE, -2);
        due.is("STATE", MutantRows.STATE, -3);
        due.is("FULL", MutantRows.FULL, -4);
        due.is("NONE", MutantRows.NONE, -9);
        due.is("LOST", MutantRows.LOST, Long.MIN_VALUE);
        Set<String> open = new TreeSet<>();
        for (Field f : MutantRows.class.getDeclaredFields()) {
            if (!Modifier.isPrivate(f.getModifiers())) {
                open.add(f.getName());
            }
        }
        holds("the constants are " + open, open.equals(Set.of("UNKNOWN", "OUTSIDE", "STATE", "FULL", "NONE", "LOST")));
    }

    /** What is written out here could be wrong: the document's own face is looked at, too. */
    private static void faceOfDocument() throws IOException {
        if (!Files.exists(DOCUMENT)) {
            System.out.println("no " + DOCUMENT + ": its face is not looked at");
            return;
        }
        String text = Files.readString(DOCUMENT);
        Set<String> face = new TreeSet<>(Arrays.asList(FACE));
        Set<String> shown = callsTold("(?m)^    public (int|long) (\\w+)\\((.*?)\\);$", text);
        Set<String> promised = callsTold("(?m)^`(int|long) (\\w+)\\((.*?)\\)`: ", text);
        holds("the document's calls are " + shown, shown.equals(face));
        holds("the calls that it promises are " + promised, promised.equals(face));
        for (String line : List.of("public final class MutantRows {", "    public MutantRows();",
                "    public static final int UNKNOWN = -1, OUTSIDE = -2, STATE = -3, FULL = -4, NONE = -9;",
                "    public static final long LOST = Long.MIN_VALUE;")) {
            holds("the document has the line " + line, text.lines().anyMatch(line::equals));
        }
    }

    /** Calls as FACE has them, without their arguments' names. */
    private static Set<String> callsTold(String form, String text) {
        Set<String> all = new TreeSet<>();
        Matcher call = Pattern.compile(form).matcher(text);
        while (call.find()) {
            String types = call.group(3).replaceAll("\\bint \\w+", "int");
            all.add(call.group(1) + " " + call.group(2) + "(" + types + ")");
        }
        return all;
    }

    private static void members(Class<?> type) {
        String name = type.getSimpleName();
        holds("at most twelve classes", types().size() <= 12);
        holds(name + " is static", type == MutantRows.class || Modifier.isStatic(type.getModifiers()));
        holds(name + " has no classes inside", type == MutantRows.class || type.getDeclaredClasses().length == 0);
        int fields = 0;
        for (Field f : type.getDeclaredFields()) {
            fields += Modifier.isStatic(f.getModifiers()) ? 0 : 1;
            holds(name + "." + f.getName() + " is no open static", !Modifier.isStatic(f.getModifiers())
                    || Modifier.isFinal(f.getModifiers()));
        }
        holds(name + " has at most twenty fields", fields <= 20);
        for (Method m : type.getDeclaredMethods()) {
            holds(name + "." + m.getName() + " takes at most seven", m.getParameterCount() <= 7);
            holds(name + "." + m.getName() + " has no public name", type == MutantRows.class
                    || Arrays.stream(FACE).noneMatch(f -> f.contains(" " + m.getName() + "(")));
        }
    }

    private static void source(String text) {
        String code = text.replaceAll("(?s)/\\*.*?\\*/", "").replaceAll("//.*", "");
        for (String word : List.of("throw", "throws", "try", "catch", "finally", "synchronized", "assert", "import",
                "package", "native", "volatile", "transient", "System\\.(?!arraycopy)\\w+", "\\w+Exact", "String", "Object",
                "double", "float", "hashCode", "toString", "equals", "yield", "var")) {
            Matcher found = Pattern.compile("\\b" + word + "\\b").matcher(code);
            holds("no word " + word, !found.find());
        }
        holds("no lambda, no method reference", !code.contains("->") && !code.contains("::"));
        holds("no static block", !Pattern.compile("static\\s*\\{").matcher(code).find());
        holds("only signs 1 to 127", text.chars().allMatch(c -> c >= 1 && c <= 127));
        // What is made is made by constructors: all calls of a run share one room.
        String behind = code.substring(code.indexOf("public int program("));
        Matcher made = Pattern.compile("(?m)^.*\\bnew\\b.*$").matcher(behind);
        while (made.find()) {
            holds("only fields are made: " + made.group().trim(),
                    made.group().matches(" {8}(private )?final \\S+ \\w+ = new .*;"));
        }
        shortMethods(text);
    }

    /** A method begins at a line of a brace's depth 1 or 2 that ends in "{", and ends at its "}". */
    private static void shortMethods(String text) {
        String[] lines = text.split("\n");
        for (int from = 0; from < lines.length; from++) {
            Matcher head = Pattern.compile("( {4}| {8})\\S.*\\) \\{").matcher(lines[from]);
            if (head.matches() && !lines[from].trim().matches("(if|for|while|switch|\\}).*")) {
                int to = from;
                while (to < lines.length && !lines[to].equals(head.group(1) + "}")) {
                    to++;
                }
                holds("at most sixty lines: " + lines[from].trim(), to - from < 60);
            }
        }
        holds("no line of over 120 signs", Arrays.stream(lines).allMatch(l -> l.length() <= 120));
    }
}
