import java.io.IOException;
import java.lang.reflect.InvocationTargetException;
import java.net.URL;
import java.net.URLClassLoader;
import java.nio.file.Files;
import java.nio.file.Path;
import java.util.List;
import java.util.regex.Matcher;
import java.util.regex.Pattern;
import javax.tools.ToolProvider;

/** README.md: its examples answer what it says, its calls are those of the document, its tests are there. */
public final class ReadmeTest {
    private static final Path README = Path.of("README.md"), DOCUMENT = Path.of("../shared/DOC.md");
    private static final Path TESTS = Path.of("src/test/java");
    private static final List<String> REFUSALS = List.of("BAD", "NOT", "FULL", "STATE", "VOID", "-11", "-12", "-13", "-14");
    private static int answers = 0;
    private static int wrong = 0;

    private ReadmeTest() { }

    public static void main(String[] args) throws IOException, ReflectiveOperationException {
        String readme = Files.readString(README);
        examples(readme);
        calls(readme, Files.readString(DOCUMENT));
        tests(readme);
        System.out.println(wrong == 0 ? answers + " answers are as due" : wrong + " answers are not as due");
        if (wrong != 0) System.exit(1);
    }

    /** Called from the examples, too, which are compiled as a class of their own. */
    public static void due(String what, long got, long want) {
        answers++;
        if (got == want) return;
        wrong++;
        System.out.println("README.md: " + what + " is " + got + ", not " + want);
    }

    private static void examples(String readme) throws IOException, ReflectiveOperationException {
        StringBuilder source = new StringBuilder("public final class Examples {\n");
        Matcher block = Pattern.compile("(?s)```java\n(.*?)```").matcher(readme);
        int blocks = 0;
        for (; block.find(); blocks++) {
            source.append("public static void example").append(blocks).append("() {\n");
            for (String line : block.group(1).split("\n")) source.append(withCheck(line)).append('\n');
            source.append("}\n");
        }
        source.append("}\n");
        due("examples", blocks, 4);
        Path room = Files.createTempDirectory("examples");
        try {
            runAll(room, source.toString(), blocks);
        } finally {
            Files.deleteIfExists(room.resolve("Examples.java"));
            Files.deleteIfExists(room.resolve("Examples.class"));
            Files.deleteIfExists(room);
        }
    }

    /** A line whose comment begins with a number must answer that number. */
    private static String withCheck(String line) {
        Matcher m = Pattern.compile("(?:int (\\w+) = )?(parish\\.\\w+\\(.*\\)); +// (-?\\d+)(?::.*)?").matcher(line);
        if (!m.matches()) {
            due("a line without an answer", line.startsWith("parish.") || line.startsWith("int ") ? 1 : 0, 0);
            return line;
        }
        String shown = "\"" + m.group(2) + "\"";
        if (m.group(1) == null) return "ReadmeTest.due(" + shown + ", " + m.group(2) + ", " + m.group(3) + "L);";
        return "int " + m.group(1) + " = " + m.group(2) + "; ReadmeTest.due(" + shown + ", " + m.group(1) + ", " + m.group(3) + "L);";
    }

    private static void runAll(Path room, String source, int blocks) throws IOException, ReflectiveOperationException {
        Path file = Files.writeString(room.resolve("Examples.java"), source);
        String classes = System.getProperty("java.class.path");
        int failed = ToolProvider.getSystemJavaCompiler().run(null, null, null, "-cp", classes, "-d", room.toString(), file.toString());
        due("faults of the examples", failed, 0);
        if (failed != 0) return;
        int before = answers;
        try (URLClassLoader loader = new URLClassLoader(new URL[] {room.toUri().toURL()}, ReadmeTest.class.getClassLoader())) {
            for (int k = 0; k < blocks; k++) loader.loadClass("Examples").getMethod("example" + k).invoke(null);
        } catch (InvocationTargetException thrown) {
            due("an example throws " + thrown.getCause(), 1, 0);
        }
        due("answers looked at", answers - before > 40 ? 1 : 0, 1);
    }

    /** Each call of the document's face has its row, and the refusals there are those of its promise. */
    private static void calls(String readme, String document) {
        Matcher call = Pattern.compile("    public (?:int|long) ((\\w+)\\([^)]*\\));").matcher(document);
        int calls = 0;
        for (; call.find(); calls++) {
            Matcher row = Pattern.compile("\n\\| `" + Pattern.quote(call.group(1)) + "` \\| ([^|]+) \\|([^|]*)\\|").matcher(readme);
            boolean found = row.find();
            due("a row for " + call.group(1), found ? 1 : 0, 1);
            if (found) refusals(call.group(2), row.group(2), promiseOf(call.group(2), document));
        }
        due("rows", readme.split("\n\\| `\\w+\\(").length - 1, calls);
    }

    private static String promiseOf(String call, String document) {
        int from = document.indexOf(": " + call + "\n");
        int to = document.indexOf("\n## ", from);
        return from < 0 || to < 0 ? "" : document.substring(document.indexOf("`: ", from), to).replaceAll("\\([^)]*\\)", "");
    }

    private static void refusals(String call, String shown, String promise) {
        boolean isOwn = promise.contains("VOID: BAD") || promise.contains("MIN_VALUE: BAD");
        for (String refusal : REFUSALS) {
            boolean told = Pattern.compile("(?<![\\w-])" + refusal + "(?!\\w)").matcher(promise).find();
            if (isOwn) told = refusal.equals("VOID") && promise.contains("VOID");
            if (call.equals("held") || call.equals("run")) told |= refusal.equals("NOT");
            boolean stands = Pattern.compile("(?<![\\w-])" + refusal + "(?!\\w)").matcher(shown).find();
            due("whether " + call + " is refused by " + refusal, stands ? 1 : 0, told ? 1 : 0);
        }
    }

    private static void tests(String readme) throws IOException {
        try (var files = Files.list(TESTS)) {
            for (Path file : (Iterable<Path>) files::iterator) {
                String name = file.getFileName().toString();
                if (name.endsWith("Test.java")) due("whether it tells of " + name, readme.contains(name) ? 1 : 0, 1);
            }
        }
    }
}
