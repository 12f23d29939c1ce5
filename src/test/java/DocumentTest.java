import java.io.IOException;
import java.lang.reflect.Field;
import java.lang.reflect.Method;
import java.lang.reflect.Modifier;
import java.nio.file.DirectoryStream;
import java.nio.file.Files;
import java.nio.file.Path;
import java.util.ArrayList;
import java.util.List;
import java.util.regex.Matcher;
import java.util.regex.Pattern;

/** The document from its first line: its face, the sentences no other test quotes, and that none is left out. */
public final class DocumentTest {
    private static final int NOT = Sentence.NOT, STATE = Sentence.STATE;
    private static final Path TESTS = Path.of("src/test/java"), SOURCE = Path.of("src/main/java/NameRests.java");
    private static final List<String> calls = new ArrayList<>();
    private static boolean[] quoted;

    private DocumentTest() { }

    public static void main(String[] args) throws IOException, IllegalAccessException {
        Sentence.read();
        quoted = new boolean[Sentence.document().length()];
        nothingToTest();
        face();
        promisesBearTheFace();
        interfaceSays();
        story();
        given();
        runInOrder();
        holdForThatOne();
        needsRunsWay0();
        changes();
        peopleByThrees();
        memoryIsItsOwn();
        everyWord();
        Sentence.end();
    }

    private static void says(String words) {
        Sentence.says(words);
    }

    private static void due(String call, long got, long want) {
        Sentence.due(call, got, want);
    }

    private static NameRests with(int... lives) {
        return Sentence.with(lives);
    }

    // ---- the document's own lines

    private static void nothingToTest() {
        says("# NameRests ## What it is");
        says("======== 1");
        says("## Terms 99.");
        says("======== 2");
        says("======== 3");
        says("The host's REFUSALS:");
        says("## Not promised How the state is held inside the object is free, as are the speed of each call, the text of "
            + "toString and the behaviour of equals and hashCode. Use of one object from several threads at once is not "
            + "promised to be safe. Nothing is promised beyond the answers and state changes described above, and nothing "
            + "about an object after its 512th call.");
    }

    /** Marks what is read straight out of the document, without a quote in a test. */
    private static String between(String from, String to) {
        String document = Sentence.document();
        int start = document.indexOf(from);
        int end = start < 0 ? -1 : document.indexOf(to, start + from.length());
        Sentence.due("the document has " + from, end < 0 ? 0 : 1, 1);
        if (end < 0) return "";
        mark(start, end);
        return document.substring(start, end);
    }

    private static void face() throws IllegalAccessException {
        says("## The public face");
        String face = between("java public final class NameRests {", "## Terms");
        Matcher constant = Pattern.compile("([A-Z]+) = (-?\\d+)").matcher(face);
        int constants = 0;
        for (; constant.find(); constants++) constantIs(constant.group(1), Integer.parseInt(constant.group(2)));
        due("constants", constants, 5);
        due("a constructor", NameRests.class.getConstructors()[0].getParameterCount(), 0);
        Matcher call = Pattern.compile("public (int|long) (\\w+)\\(([^)]*)\\);").matcher(face);
        while (call.find()) {
            calls.add(call.group(2));
            due("the face has " + call.group(), isDeclared(call.group(1), call.group(2), call.group(3)) ? 1 : 0, 1);
        }
        due("calls", calls.size(), 36);
    }

    private static void constantIs(String name, int value) throws IllegalAccessException {
        for (Field f : NameRests.class.getFields()) {
            if (f.getName().equals(name)) {
                due(name, f.getInt(null), value);
                due(name + " is static and final", f.getModifiers(), Modifier.PUBLIC | Modifier.STATIC | Modifier.FINAL);
                return;
            }
        }
        due("there is " + name, 0, 1);
    }

    private static boolean isDeclared(String answer, String name, String parameters) {
        for (Method m : NameRests.class.getMethods()) {
            List<String> types = new ArrayList<>();
            for (Class<?> type : m.getParameterTypes()) types.add(type.getSimpleName());
            if (m.getName().equals(name) && m.getReturnType().getSimpleName().equals(answer)
                && String.join(", ", types).equals(parameters.replaceAll("(int|long) \\w+", "$1"))) return true;
        }
        return false;
    }

    private static void promisesBearTheFace() {
        String document = Sentence.document();
        Matcher head = Pattern.compile("## Promise (\\d+): (A new object|\\w+) (?:(int|long) )?(\\w+)\\(([^)]*)\\):").matcher(document);
        int promises = 0;
        while (head.find()) {
            mark(head.start(), head.end());
            promises++;
            due("the number of " + head.group(4), Integer.parseInt(head.group(1)), promises);
            if (promises == 1) continue;
            due("the call of promise " + promises + " is " + head.group(4), calls.indexOf(head.group(4)), promises - 2);
            due("promise " + promises, isDeclared(head.group(3), head.group(4), head.group(5)) ? 1 : 0, 1);
        }
        due("promises", promises, Sentence.MOST_PROMISES);
    }

    /** The class is such an interface: its calls stand in the document's order, each part behind its line. */
    private static void interfaceSays() throws IOException {
        String source = Files.readString(SOURCE);
        Matcher part = Pattern.compile("Ahead of the calls ([\\w, ]+) the interface says: (---- [^.]+)\\.").matcher(Sentence.document());
        int parts = 0;
        int at = 0;
        for (; part.find(); parts++) {
            mark(part.start(), part.end());
            int line = source.indexOf("// " + part.group(2) + "\n", at);
            due("'" + part.group(2) + "' stands ahead of its calls", line > at ? 1 : 0, 1);
            at = line;
            for (String call : part.group(1).split(", ")) {
                int place = placeOf(call, source);
                due(call + " stands behind what is ahead of it", place > at ? 1 : 0, 1);
                at = place;
            }
        }
        due("parts", parts, 4);
    }

    private static int placeOf(String call, String source) {
        Matcher m = Pattern.compile("\n    public (int|long) " + call + "\\(").matcher(source);
        return m.find() ? m.start() : -1;
    }

    // ---- 'What it is', as one parish's story

    private static void story() {
        says("A name's free when nobody's left who knew its bearer:");
        NameRests x = with(0, 30, 20, 60, 40, 95);
        x.name(0, 7);
        says("people who are born, meet, hear of others and die,");
        due("the first two meet", x.meet(1, 25), 0);
        due("the latter two meet", x.meet(102, 50), 1);
        due("nobody hears", x.hearing(1), 0);
        says("names that are held as long as somebody lives who holds them by a law told as a text;");
        due("a law", Sentence.tell(x, "a<50|i"), 1);
        says("who knows whom by when,");
        due("not yet", x.knows(2, 49), 4);
        due("by hearing", x.knows(2, 50), 7);
        says("which names are held, by whom, till when, which are free;");
        due("held", x.held(7, 89, 0), 1);
        due("by whom", x.held(7, 89, 1), 4);
        due("till when", x.held(7, 0, 2), 90);
        due("free", x.free(89), 4095 - 128);
        due("nobody's left", x.free(90), 4095);
        says("told names looked at, children named as they come by ways, how many names a parish needs;");
        x.name(1, 7);
        due("the second bears a name that was held", x.judge(), 1);
        x.name(1, -1);
        due("named", x.give(1, 0), 0);
        due("a parish needs", x.used(0, 0), 3);
        says("which meetings must not be for a name to be free, what one's death would free, who cannot have known whom;");
        due("must not be", x.apart(7, 80), 1);
        due("one's death", x.freed(2, 80), 128 + 1);
        x.name(2, 7);
        due("cannot have known", x.never(0), 2);
        says("how many names by drawn deaths;");
        due("drawn", x.needs(3, 20, 1) <= 3 ? 1 : 0, 1);
        storyGoesOn(x);
    }

    private static void storyGoesOn(NameRests x) {
        says("deaths, worths mended, undone; an image;");
        due("a death", x.mend(2, 0, 70), 95);
        due("a worth", x.mend(7, 1, 9), 1);
        due("undone", x.undo(), 1);
        due("undone", x.undo(), 0);
        due("an image", x.image(), 3);
        due("renamed", x.name(2, 3), 7);
        due("back", x.back(), 3);
        due("as it was", x.of(2, 2), 7);
        says("people from rows that lack or end;");
        due("no row", x.people(0, 0, 2), 0);
        x.row(0, 0, 5);
        Sentence.putAll(x, 0, 1, 2, 3, 4, 5);
        due("a row that ends", x.people(0, 0, 2), 1);
        says("givers whose acts come from above; and each child and name led.");
        x.body(4);
        due("from above", x.act(0, 1, 1), 8);
        due("the body above", x.trace(0), 10);
        due("each child", x.count(2), 4);
    }

    // ---- what no other test quotes

    private static void given() {
        says("GIVEN by a WAY: of NAMES that are FREE, in the YEAR in which one is BORN, by those ahead of it:");
        for (int way = 0; way < 3; way++) {
            NameRests x = with(10, 60, 10, 20, 30, 50, 30, 50, 31, 50);
            for (int name = 0; name < 3; name++) x.name(name, name);
            x.name(4, 4);
            for (int worth = 1; worth <= 5; worth++) x.mend(6 - worth, 1, 9 - worth);
            due("0 is held, 2 by one of the same year, 4 by one behind; way " + way, x.give(3, way), new int[] {1, 1, 5}[way]);
        }
        says("(never: ahead of all; of like ones the least number)");
        NameRests x = with(0, 10, 0, 10, 50, 60);
        due("all were never held", x.give(2, 1), 0);
        x.name(2, -1);
        x.name(0, 9);
        x.name(1, 5);
        due("5 and 9 were held till the same year", x.give(2, 1), 5);
    }

    private static void runInOrder() {
        says("all PEOPLE without NAMES, one by one in THE ORDER GIVEN theirs");
        NameRests x = with(60, 70, 0, 100, 30, 100, 0, 20);
        int[] given = {2, 0, 1, 1};
        for (int p = 0; p < 4; p++) due("run(0, " + p + ")", x.run(0, p), given[p]);
        due("nobody is named by it", x.count(2), 0);
        for (int p = 0; p < 4; p++) x.name(p, 0);
        for (int p = 0; p < 4; p++) due("run(0, " + p + ") of those who have names", x.run(0, p), given[p]);
    }

    private static void holdForThatOne() {
        says(", and HOLD it for that one.");
        NameRests x = with(0, 20, 0, 40, 10, 90);
        x.name(0, 6);
        x.name(1, 6);
        x.meet(2, 15);
        Sentence.tell(x, "d>9&d<25");
        due("for the first one, which died in 20", x.held(6, 44, 1), 4);
        due("none for the first one any more; the second one is not known", x.held(6, 50, 1), 0);
        x.meet(102, 30);
        due("for the second one, which died in 40", x.held(6, 50, 1), 4);
        due("for neither of them", x.held(6, 45, 1), 0);
    }

    private static void needsRunsWay0() {
        says("; then RUN by WAY 0: how many NAMES come:");
        NameRests x = with(0, 100, 99, 100);
        int z = 12345;
        int dies = 1 + (z >>> 8) % 100;
        due("the first one dies in 49", dies, 49);
        due("one name serves both", x.needs(0, 1, 0), 1);
        x.meet(1, 99);
        due("the meeting does not count by the drawn death", x.needs(0, 1, 1), 1);
        NameRests y = with(0, 1, 10, 11);
        due("it is drawn, not told", y.needs(0, 1, 0), 2);
    }

    private static void changes() {
        says("CHANGES (DIES of PEOPLE, WORTH of NAMES)");
        NameRests x = with(0, 50, 0, 50);
        x.name(0, 1);
        x.fame(1, 1);
        x.hearing(1);
        x.meet(1, 5);
        x.give(1, 0);
        Sentence.tell(x, "i");
        due("no change yet", x.undo(), STATE);
        x.mend(0, 0, 60);
        x.mend(0, 1, 3);
        due("two", x.count(4), 2);
        x.name(0, 2);
        x.fame(1, 0);
        x.hearing(0);
        due("the worth", x.undo(), 1);
        due("its worth", x.of(0, 10), 1);
        x.name(0, 5);
        due("a name is no change that comes behind", x.redo(), 0);
        due("its worth", x.of(0, 10), 3);
        due("the name stays", x.of(0, 2), 5);
        x.undo();
        due("the death", x.undo(), 0);
        due("dies", x.of(0, 1), 50);
    }

    private static void peopleByThrees() {
        says(". PEOPLE FROM A ROW of bytes, from place i on: by threes BORN, DIES, NAME (-1: none): n of them;");
        int[] row = {99, 1, 40, 41, -1, 3, 100, 11, 0, 1, 0, 50, 99, 5};
        for (int n = 1; n <= 12; n++) {
            NameRests x = new NameRests();
            x.row(5, 0, row.length);
            Sentence.putAll(x, 5, row);
            due("n " + n, x.people(5, 2, n), Math.min(n, 4));
            for (int p = 0; p < Math.min(n, 4); p++) {
                for (int what = 0; what < 3; what++) due("of(" + p + ", " + what + ")", x.of(p, what), row[2 + 3 * p + what]);
            }
            due("count(0)", x.count(0), Math.min(n, 4));
        }
    }

    private static void memoryIsItsOwn() {
        says("All memory is the class's own. MORE CLOSELY:");
        NameRests x = with(0, 50);
        NameRests y = with(0, 50);
        x.name(0, 3);
        x.mend(0, 0, 60);
        x.hearing(1);
        x.row(0, 0, 3);
        x.body(1);
        x.act(0, 0, 1);
        Sentence.feedAll(x, "i");
        due("the other one's name", y.of(0, 2), -1);
        due("dies", y.of(0, 1), 50);
        due("hearing", y.hearing(0), 0);
        due("shelf", y.taken(0, 0), -11);
        due("bodies, trace, tape, changes", y.count(5) + y.count(6) + y.count(3) + y.count(4), 0);
        due("judged", y.judge(), NOT);
    }

    // ---- that no word is left out

    private static void mark(int from, int to) {
        for (int k = from; k < to; k++) quoted[k] = true;
    }

    private static void everyWord() throws IOException {
        try (DirectoryStream<Path> files = Files.newDirectoryStream(TESTS, "*Test.java")) {
            for (Path file : files) markQuotes(Files.readString(file));
        }
        String document = Sentence.document();
        StringBuilder left = new StringBuilder();
        for (int k = 0; k < document.length(); k++) left.append(quoted[k] ? '\f' : document.charAt(k));
        for (String words : left.toString().split("\f+")) {
            if (words.matches("(?s).*\\w.*") && !words.matches("\\W*text\\W*")) due("no test says '" + words + "'", 1, 0);
        }
    }

    private static void markQuotes(String source) {
        Pattern quote = Pattern.compile("\\b(?:says|promises)\\((?:(\\d+), )?((?:\"[^\"]*\"\\s*\\+?\\s*)+)\\)");
        Matcher m = quote.matcher(source);
        while (m.find()) {
            String words = m.group(2).replaceAll("\"\\s*\\+\\s*\"", "").trim();
            words = words.substring(1, words.length() - 1);
            int from = m.group(1) == null ? 0 : Sentence.document().indexOf("## Promise " + m.group(1) + ":");
            int to = m.group(1) == null ? quoted.length : Sentence.document().indexOf("## ", from + 3);
            for (int at = Sentence.document().indexOf(words, from); at >= 0 && at < to;
                at = Sentence.document().indexOf(words, at + 1)) mark(at, at + words.length());
        }
    }
}
