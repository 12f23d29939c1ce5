import java.io.IOException;
import java.nio.file.Files;
import java.nio.file.Path;
import java.util.Set;
import java.util.TreeSet;

/** What the tests of the document's bounds share: the sentence under test, and the answers that are due. */
final class Sentence {
    static final int BAD = -1, NOT = -2, FULL = -3, STATE = -5, VOID = -2000000000;
    static final int NOTHING = -11, OTHER = -12, PLACE = -13, SIZE = -14;
    static final int LOW = Integer.MIN_VALUE, HIGH = Integer.MAX_VALUE;
    static final int MOST_PROMISES = 37;

    private static final Path DOCUMENT = Path.of("../shared/DOC.md");
    private static final Set<Integer> promises = new TreeSet<>();
    private static String document = "";
    private static String words = "";
    private static int answers = 0;
    private static int wrong = 0;

    private Sentence() { }

    static void read() throws IOException {
        document = plain(Files.readString(DOCUMENT));
    }

    private static String plain(String text) {
        return text.replace("`", "").replaceAll("\\s+", " ");
    }

    /** The sentence that the answers from here on belong to, so that none is tested that nobody said. */
    static void says(String quoted) {
        words = plain(quoted);
        if (!document.contains(words)) fail("the document does not say: " + words);
    }

    static String words() {
        return words;
    }

    static String document() {
        return document;
    }

    /** The same for a sentence of a promise's own section. */
    static void promises(int number, String quoted) {
        words = plain(quoted);
        promises.add(number);
        int from = document.indexOf("## Promise " + number + ":");
        int to = document.indexOf("## ", from + 3);
        if (from < 0 || to < 0 || !document.substring(from, to).contains(words)) {
            fail("promise " + number + " does not say: " + words);
        }
    }

    static void everyPromise() {
        for (int number = 1; number <= MOST_PROMISES; number++) {
            if (!promises.contains(number)) fail("no bound of promise " + number + " was looked at");
        }
    }

    static void due(String call, long got, long want) {
        answers++;
        if (got != want) fail("'" + words + "': " + call + " answered " + got + ", due is " + want);
    }

    private static void fail(String what) {
        wrong++;
        System.out.println(what);
    }

    static void end() {
        System.out.println(wrong == 0 ? answers + " answers are as due" : wrong + " answers are not as due");
        if (wrong != 0) System.exit(1);
    }

    /** The ends of the ints, and each bound with the numbers next to it on either side. */
    static int[] around(int least, int most) {
        return new int[] {
            LOW, LOW + 1, least - 2, least - 1, least, least + 1, most - 1, most, most + 1, most + 2, HIGH - 1, HIGH,
        };
    }

    static boolean within(int v, int least, int most) {
        return v >= least && v <= most;
    }

    /** People of (born, dies) by twos. */
    static NameRests with(int... lives) {
        NameRests x = new NameRests();
        for (int k = 0; k + 1 < lives.length; k += 2) x.person(lives[k], lives[k + 1]);
        return x;
    }

    /** n people who live in all years. */
    static NameRests crowd(int n) {
        NameRests x = new NameRests();
        for (int p = 0; p < n; p++) x.person(0, 100);
        return x;
    }

    static void feedAll(NameRests x, String text) {
        for (int i = 0; i < text.length(); i++) x.feed(text.charAt(i));
    }

    static int tell(NameRests x, String text) {
        feedAll(x, text);
        return x.law();
    }

    static void putAll(NameRests x, int shelf, int... values) {
        for (int i = 0; i < values.length; i++) x.put(shelf, i, values[i]);
    }
}
