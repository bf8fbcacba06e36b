import java.io.IOException;
import java.lang.reflect.Method;
import java.lang.reflect.Modifier;
import java.net.URL;
import java.net.URLClassLoader;
import java.nio.file.Files;
import java.nio.file.Path;
import java.util.ArrayList;
import java.util.Comparator;
import java.util.List;
import java.util.Set;
import java.util.TreeSet;
import java.util.regex.Matcher;
import java.util.regex.Pattern;
import java.util.stream.Stream;
import javax.tools.ToolProvider;

/**
 * README.md: its blocks of Java are put together to one program, in which each row must answer what stands
 * behind it; no call with its numbers stands elsewhere, and each call of the face and each test is told of.
 */
public final class ReadmeTest {
    private static final Pattern ROW = Pattern.compile("((?:x\\.|\\w+\\(x).*\\));\\s+// (-?\\d+|\"[^\"]+\")(?:: .+)?");
    private static final String NEW_OBJECT = "MeetingSets x = new MeetingSets();";
    private static final Path README = readme();
    private static int wrong = 0;
    private static int asked = 0;

    private ReadmeTest() {
    }

    private static Path readme() {
        String named = System.getenv("MEETING_SETS_README");
        return Path.of(named == null ? "README.md" : named).toAbsolutePath();
    }

    private static void must(boolean good, String what) {
        if (!good) {
            wrong++;
            System.out.println(what);
        }
    }

    /** What the program made of README.md calls for each row. */
    public static void due(String row, Object got, Object want) {
        asked++;
        must(got.equals(want), row + " answers " + got + ", README.md shows " + want);
    }

    /** The insides of the blocks of a kind, such as java or sh. */
    private static List<String> blocks(String text, String kind) {
        List<String> list = new ArrayList<>();
        Matcher m = Pattern.compile("(?ms)^```" + kind + "\n(.*?)^```$").matcher(text);
        while (m.find()) {
            list.add(m.group(1));
        }
        return list;
    }

    // ---- the calls and answers

    private static List<String> rowsOf(String text) {
        List<String> rows = new ArrayList<>();
        for (String block : blocks(text, "java")) {
            if (!block.contains("static ")) {
                rows.addAll(List.of(block.split("\n")));
            }
        }
        return rows;
    }

    /** A row as a statement of the program; one that can't be read is told of. */
    private static String statement(String row) {
        if (row.equals(NEW_OBJECT)) {
            return row + "\n";
        }
        Matcher m = ROW.matcher(row);
        if (!m.matches()) {
            must(false, "neither a new object nor a call with its answer: " + row);
            return "";
        }
        String shown = m.group(1).replace("\\", "\\\\").replace("\"", "\\\"");
        return "ReadmeTest.due(\"" + shown + "\", " + m.group(1) + ", " + m.group(2) + ");\n";
    }

    private static String program(String text) {
        StringBuilder source = new StringBuilder("public final class ReadmeProgram {\n");
        for (String block : blocks(text, "java")) {
            source.append(block.contains("static ") ? block : "");
        }
        source.append("public static void main(String[] args) {\n");
        rowsOf(text).forEach(row -> source.append(statement(row)));
        return source.append("}\n}\n").toString();
    }

    private static void runs(String source) throws Exception {
        Path folder = Files.createTempDirectory("readme");
        try {
            Path file = Files.writeString(folder.resolve("ReadmeProgram.java"), source);
            String here = System.getProperty("java.class.path");
            int failed = ToolProvider.getSystemJavaCompiler().run(null, null, null,
                    "-Xlint:all", "-cp", here, "-d", folder.toString(), file.toString());
            must(failed == 0, "the Java of README.md can't be compiled");
            if (failed == 0) {
                try (URLClassLoader loader = new URLClassLoader(new URL[] {folder.toUri().toURL()})) {
                    Method main = loader.loadClass("ReadmeProgram").getMethod("main", String[].class);
                    main.invoke(null, (Object) new String[0]);
                }
            }
        } finally {
            remove(folder);
        }
    }

    private static void remove(Path folder) throws IOException {
        List<Path> paths = new ArrayList<>();
        try (Stream<Path> found = Files.walk(folder)) {
            found.sorted(Comparator.reverseOrder()).forEach(paths::add);
        }
        for (Path path : paths) {
            Files.delete(path);
        }
    }

    // ---- that nothing is left out

    private static Set<String> face() {
        Set<String> names = new TreeSet<>();
        for (Method m : MeetingSets.class.getDeclaredMethods()) {
            if (Modifier.isPublic(m.getModifiers())) {
                names.add(m.getName());
            }
        }
        return names;
    }

    private static void allIsShown(List<String> rows) {
        Set<String> left = face();
        Set<String> answers = new TreeSet<>(List.of("-1", "-2", "-3", "-4", "-5", "-6"));
        for (String row : rows) {
            Matcher m = ROW.matcher(row);
            if (m.matches()) {
                left.remove(m.group(1).replaceAll("^x\\.|\\(.*", ""));
                answers.remove(m.group(2));
            }
        }
        must(left.isEmpty(), "calls that README.md does not show: " + left);
        must(answers.isEmpty(), "answers below 0 that README.md does not show: " + answers);
    }

    /** A call that is shown with its numbers elsewhere would not be run. */
    private static void nothingElsewhere(String text) {
        String rest = text.replaceAll("(?ms)^```java\n.*?^```$", "");
        Matcher m = Pattern.compile("\\b(\\w+)\\([^)\n]*\\)").matcher(rest);
        while (m.find()) {
            must(!face().contains(m.group(1)), "a call outside of the blocks of Java: " + m.group());
        }
    }

    private static Set<String> testsThere() throws IOException {
        Set<String> names = new TreeSet<>();
        try (Stream<Path> files = Files.list(README.resolveSibling("src/test/java"))) {
            files.map(f -> f.getFileName().toString()).filter(f -> f.endsWith("Test.java"))
                    .forEach(f -> names.add(f.replace(".java", "")));
        }
        return names;
    }

    private static void testsAreNamed(String text) throws IOException {
        Set<String> named = new TreeSet<>();
        Matcher m = Pattern.compile("\\b\\w+Test\\b").matcher(text.substring(text.indexOf("\n## Tests\n") + 1));
        while (m.find()) {
            named.add(m.group());
        }
        must(named.equals(testsThere()), "README.md names the tests " + named + ", there are " + testsThere());
        must(blocks(text, "sh").contains("bash .ci/run\n"), "README.md says how to run the tests");
        must(Files.isExecutable(README.resolveSibling(".ci/run")), ".ci/run can be run");
    }

    public static void main(String[] args) throws Exception {
        String text = Files.readString(README);
        List<String> rows = rowsOf(text);
        runs(program(text));
        must(asked > 0 && asked == rows.stream().filter(r -> ROW.matcher(r).matches()).count(), "each row was asked");
        must(asked <= 400, "an object is used for at most 512 calls, those of the helpers too");
        allIsShown(rows);
        nothingElsewhere(text);
        testsAreNamed(text);
        System.out.println(asked + " calls of README.md, " + wrong + " things not as due");
        if (wrong != 0) {
            System.exit(1);
        }
    }
}
