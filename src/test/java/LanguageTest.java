import java.io.IOException;
import java.lang.reflect.Constructor;
import java.lang.reflect.Field;
import java.lang.reflect.Method;
import java.lang.reflect.Modifier;
import java.nio.file.Files;
import java.nio.file.Path;
import java.util.ArrayList;
import java.util.Arrays;
import java.util.HashSet;
import java.util.List;
import java.util.Map;
import java.util.Set;
import java.util.TreeMap;
import java.util.TreeSet;
import java.util.regex.Matcher;
import java.util.regex.Pattern;

/** The rules of LANGUAGE.md that can be read off the source and the compiled class. */
public final class LanguageTest {
    private static final Path SOURCE = Path.of("src/main/java/NameRests.java");
    private static final int MOST_LINES = 60, MOST_PARAMETERS = 7, MOST_CLASSES = 12, MOST_FIELDS = 20, DEEPEST = 8;
    private static final String[] FACE = {
        "int person(int, int)", "int people(int, int, int)", "int meet(int, int)", "int hearing(int)",
        "int name(int, int)", "int fame(int, int)", "int mend(int, int, int)", "int of(int, int)", "int feed(int)",
        "int law()", "int knows(int, int)", "int held(int, int, int)", "int free(int)", "int most(int)", "int judge()",
        "int give(int, int)", "int run(int, int)", "int used(int, int)", "int apart(int, int)", "int freed(int, int)",
        "int never(int)", "int needs(int, int, int)", "int image()", "int back()", "int undo()", "int redo()",
        "int body(int)", "int act(int, int, int)", "int trace(int)", "int keep(int, int)", "int row(int, int, int)",
        "int put(int, int, long)", "long element(int, int)", "int shift(int, int, int, int, int)", "int taken(int, int)",
        "int count(int)",
    };
    private static int wrong = 0;

    private LanguageTest() { }

    public static void main(String[] args) throws IOException {
        String source = Files.readString(SOURCE);
        String code = withoutTexts(source);
        words(source, code);
        face();
        classes();
        Map<String, String> methods = methods(code);
        lengths(methods);
        depth(methods);
        System.out.println(wrong == 0 ? "the rules that are tested are kept" : wrong + " rules are broken");
        if (wrong != 0) System.exit(1);
    }

    private static void rule(int number, boolean kept, String what) {
        if (kept) return;
        wrong++;
        System.out.println("rule " + number + ": " + what);
    }

    private static String withoutTexts(String source) {
        return source.replaceAll("(?s)/\\*.*?\\*/", "").replaceAll("//[^\n]*", "")
            .replaceAll("\"[^\"]*\"", "\"\"").replaceAll("'(\\\\.|[^'])'", "' '");
    }

    private static void words(String source, String code) {
        String[] forbidden = {
            "throw", "throws", "try", "catch", "synchronized", "assert", "package", "protected", "native", "volatile",
            "hashCode", "toString", "Exact", "->", "::", "float", "double", "System.out", "Object", "Thread",
        };
        for (String word : forbidden) {
            String pattern = Character.isLetter(word.charAt(0)) ? "\\b" + Pattern.quote(word) + "\\b" : Pattern.quote(word);
            rule(6, !Pattern.compile(pattern).matcher(code).find(), "'" + word + "' stands in the source");
        }
        rule(5, !Pattern.compile("\\bstatic\\s*\\{").matcher(code).find(), "a static initialiser block");
        Matcher imports = Pattern.compile("\\bimport ([^;]+);").matcher(code);
        while (imports.find()) {
            rule(4, imports.group(1).matches("java\\.util\\.(Arrays|ArrayList|List|Iterator)"), "import " + imports.group(1));
        }
        rule(3, source.chars().allMatch(c -> c < 128), "a sign above 127 stands in the source");
        String elsewhere = code.replaceAll("(?s)\n    public NameRests\\(\\) \\{.*?\n    }", "")
            .replaceAll("\n        final \\w+\\[\\] \\w+ = new [^;]*;", "");
        rule(12, !Pattern.compile("\\bnew\\b").matcher(elsewhere).find(), "'new' outside fields and the constructor");
    }

    private static String shown(Method m) {
        List<String> parameters = new ArrayList<>();
        for (Class<?> p : m.getParameterTypes()) parameters.add(p.getSimpleName());
        return m.getReturnType().getSimpleName() + " " + m.getName() + "(" + String.join(", ", parameters) + ")";
    }

    private static void face() {
        rule(1, Modifier.isPublic(NameRests.class.getModifiers()) && Modifier.isFinal(NameRests.class.getModifiers()),
            "the class is public and final");
        Set<String> told = new TreeSet<>(Arrays.asList(FACE));
        Set<String> names = new HashSet<>();
        for (String method : FACE) names.add(method.replaceAll("^\\w+ (\\w+)\\(.*", "$1"));
        for (Method m : NameRests.class.getDeclaredMethods()) {
            if (Modifier.isPrivate(m.getModifiers())) {
                rule(1, !names.contains(m.getName()), m.getName() + " is private and bears a public name");
            } else {
                rule(1, Modifier.isPublic(m.getModifiers()) && told.remove(shown(m)), shown(m) + " is not in the face");
            }
        }
        rule(1, told.isEmpty(), "the face lacks " + told);
        Constructor<?>[] constructors = NameRests.class.getDeclaredConstructors();
        rule(1, constructors.length == 1 && Modifier.isPublic(constructors[0].getModifiers())
            && constructors[0].getParameterCount() == 0, "one public constructor");
        Set<String> constants = new TreeSet<>();
        for (Field f : NameRests.class.getDeclaredFields()) {
            if (!Modifier.isPrivate(f.getModifiers())) constants.add(f.getName());
        }
        rule(1, constants.equals(new TreeSet<>(List.of("BAD", "NOT", "FULL", "STATE", "VOID"))), "constants " + constants);
    }

    private static void classes() {
        Class<?>[] inside = NameRests.class.getDeclaredClasses();
        rule(11, inside.length + 1 <= MOST_CLASSES, inside.length + " classes inside");
        for (Class<?> c : inside) {
            rule(2, Modifier.isStatic(c.getModifiers()), c + " is not static");
            fields(c);
        }
        fields(NameRests.class);
    }

    private static void fields(Class<?> c) {
        int own = 0;
        for (Field f : c.getDeclaredFields()) {
            boolean isStatic = Modifier.isStatic(f.getModifiers());
            rule(5, !isStatic || Modifier.isFinal(f.getModifiers()), f + " is static and not final");
            own += isStatic ? 0 : 1;
        }
        rule(11, own <= MOST_FIELDS, c + " has " + own + " fields");
        for (Method m : c.getDeclaredMethods()) {
            rule(11, m.getParameterCount() <= MOST_PARAMETERS, m + " takes too many");
        }
    }

    /** Bodies of methods by their names; those of one name are taken together. */
    private static Map<String, String> methods(String code) {
        Map<String, String> methods = new TreeMap<>();
        Pattern head = Pattern.compile("\n( {4}| {8})(?:(?:public|private|static|final) )*\\w+(?:\\[\\])? (\\w+)\\([^;{)]*\\) \\{");
        Matcher m = head.matcher(code);
        while (m.find()) {
            int end = code.indexOf("\n" + m.group(1) + "}", m.end());
            methods.merge(m.group(2), code.substring(m.end(), end), (one, other) -> one + "\f" + other);
        }
        return methods;
    }

    private static void lengths(Map<String, String> methods) {
        methods.forEach((name, bodies) -> {
            for (String body : bodies.split("\f")) {
                rule(11, body.split("\n").length <= MOST_LINES, name + " is long");
            }
        });
    }

    private static void depth(Map<String, String> methods) {
        for (String method : FACE) {
            String name = method.replaceAll("^\\w+ (\\w+)\\(.*", "$1");
            List<String> chain = longest(name, methods, new ArrayList<>());
            rule(11, chain.size() <= DEEPEST, "calls go deep: " + chain);
        }
    }

    /** The longest chain of calls in which none stands twice. */
    private static List<String> longest(String name, Map<String, String> methods, List<String> open) {
        List<String> best = new ArrayList<>();
        List<String> now = new ArrayList<>(open);
        now.add(name);
        Matcher m = Pattern.compile("\\b(\\w+)\\(").matcher(methods.getOrDefault(name, ""));
        Set<String> called = new TreeSet<>();
        while (m.find()) called.add(m.group(1));
        for (String next : called) {
            if (!methods.containsKey(next) || now.contains(next)) continue;
            List<String> chain = longest(next, methods, now);
            if (chain.size() > best.size()) best = chain;
        }
        best.add(0, name);
        return best;
    }
}
