import java.io.IOException;

/** The bounds of bodies, acts, the trace, shelves and rows, and of people who come from rows. */
public final class ShelvesBoundsTest {
    private static final int BAD = Sentence.BAD, FULL = Sentence.FULL, VOID = Sentence.VOID;
    private static final int NOTHING = Sentence.NOTHING, OTHER = Sentence.OTHER, PLACE = Sentence.PLACE, SIZE = Sentence.SIZE;
    private static final int LOW = Sentence.LOW, HIGH = Sentence.HIGH;
    private static final long NO_ELEMENT = Long.MIN_VALUE;
    private static final int BYTES = 0, SHORTS = 1, INTS = 2, LONGS = 3, BOOLEANS = 4;

    private ShelvesBoundsTest() { }

    public static void main(String[] args) throws IOException {
        Sentence.read();
        bodies();
        kinds();
        acts();
        actsWrap();
        trace();
        noTrace();
        shelves();
        shelvesAtFirst();
        sizesOfRows();
        sorts();
        zeroAtFirst();
        lowestBits();
        booleans();
        nothingIsThere();
        anotherKind();
        placesOfRows();
        shiftedPlaces();
        shiftedAsTheyWere();
        sizeBelowZero();
        peopleFromMissing();
        peopleFromPlaces();
        peopleFromEnds();
        peopleAsTheyMayBe();
        peopleTillFull();
        howManyPeople();
        Sentence.end();
    }

    private static void says(String words) {
        Sentence.says(words);
    }

    private static void due(String call, long got, long want) {
        Sentence.due(call, got, want);
    }

    // ---- bodies, acts

    private static void bodies() {
        says("BODIES 0 .. 49 are kept by call");
        NameRests x = new NameRests();
        due("keep(0, 0)", x.keep(0, 0), BAD);
        for (int n = 0; n < 50; n++) {
            due("act(" + n + ", 0, 1)", x.act(n, 0, 1), 0);
            due("body " + n, x.body(0), n);
            due("act(" + n + ", 0, 1)", x.act(n, 0, 1), n + 1);
        }
        for (int again = 0; again < 3; again++) due("a 51st", x.body(7), FULL);
        due("count(5)", x.count(5), 50);
        for (int n : Sentence.around(0, 49)) {
            boolean is = Sentence.within(n, 0, 49);
            due("act(" + n + ", 0, 1)", x.act(n, 0, 1), is ? n + 1 : 0);
            due("keep(0, " + n + ")", x.keep(0, n), is || n == -1 ? 1 : BAD);
        }
    }

    private static void kinds() {
        says("A BODY of a KIND (0 .. 7) is kept: its number. BAD, FULL.");
        for (int kind : Sentence.around(0, 7)) {
            NameRests x = new NameRests();
            boolean is = Sentence.within(kind, 0, 7);
            due("body(" + kind + ")", x.body(kind), is ? 0 : BAD);
            due("count(5)", x.count(5), is ? 1 : 0);
            x.body(5);
            x.keep(0, is ? 1 : 0);
            int under = kind == 0 || kind == 2 || kind == 3 || kind == 5 ? 5 : OTHER;
            due("taken(0, " + kind + ")", x.taken(0, kind), is ? under : BAD);
        }
    }

    private static void acts() {
        says("An ACT (0 .. 3) of a BODY with x. 0, and no TRACE then: no such BODY, ACT.");
        NameRests x = new NameRests();
        x.body(0);
        int[] answers = {7, 14, 7, 13};
        for (int act : Sentence.around(0, 3)) {
            boolean is = Sentence.within(act, 0, 3);
            due("act(0, " + act + ", 7)", x.act(0, act, 7), is ? answers[act] : 0);
            due("trace(0)", x.trace(0) == BAD ? 0 : 1, is ? 1 : 0);
            due("act(1, " + act + ", 7)", x.act(1, act, 7), 0);
            due("trace(0)", x.trace(0), BAD);
        }
    }

    /** Bodies of the kinds by their numbers, n is the kind. */
    private static void actsWrap() {
        says("ACTS with x (an int that wraps)");
        NameRests x = new NameRests();
        for (int kind = 0; kind < 8; kind++) x.body(kind);
        due("GIVER gives", x.act(0, 0, HIGH), HIGH);
        due("GIVER holds", x.act(0, 1, HIGH), -2);
        due("GIVER holds", x.act(0, 1, LOW), 0);
        due("GIVER tells", x.act(0, 3, LOW), -1);
        due("FIRST gives", x.act(1, 0, HIGH), LOW + 3);
        due("FIRST gives", x.act(1, 0, HIGH - 4), HIGH);
        due("FIRST gives", x.act(1, 0, HIGH - 3), LOW);
        due("SOON holds", x.act(2, 1, 0x3ffffffe), LOW);
        due("SOON knows", x.act(2, 2, LOW), LOW + 2);
        due("WISH knows", x.act(3, 2, 0x40000003), 0xc0000000);
        due("WISH holds", x.act(3, 1, HIGH), -6);
        due("BLIND tells", x.act(4, 3, LOW), 14 - 5 ^ 5);
        due("BEST knows", x.act(5, 2, LOW), (LOW + 5) * 3 - 7);
        due("BEST tells", x.act(5, 3, HIGH), -2 * (LOW + 5) - 5 + 1);
        due("TOLD gives", x.act(6, 0, HIGH - 6), -2);
        due("TOLD gives", x.act(6, 0, 0x3ffffffa), LOW);
        due("HERMIT gives", x.act(7, 0, 0x3ffffff9), HIGH);
        due("HERMIT holds", x.act(7, 1, 0x3ffffff9), -2 + 5);
        NameRests last = new NameRests();
        for (int n = 0; n < 50; n++) last.body(0);
        due("the last one gives", last.act(49, 0, HIGH), LOW + 48);
        due("the last one knows", last.act(49, 2, LOW), LOW + 49);
        due("the last one tells", last.act(49, 3, HIGH), 96 - 48);
    }

    private static void trace() {
        says("THE TRACE: numbers of the bodies that ran in the latest act(), as they began; the first 24 are kept.");
        NameRests x = new NameRests();
        for (int kind = 0; kind < 8; kind++) x.body(kind);
        due("no act yet", x.trace(0), BAD);
        int[][] longest = {
            {2, 10, 1, 11}, {2, 10, 20, 1, 11}, {2, 30, 10, 1, 11}, {2, 41, 30, 10, 1, 40, 11}, {50, 2, 10, 20, 1, 11},
            {61, 2, 41, 30, 10, 1, 60, 40, 11, 1}, {2, 10, 70, 1, 11}, {2, 80, 10, 81, 70, 1, 11, 11},
        };
        for (int kind = 0; kind < 8; kind++) {
            int[] bodies = longest[kind];
            x.act(kind, 3, HIGH);
            due("all that ran", x.count(6), bodies.length);
            for (int i : Sentence.around(0, bodies.length - 1)) {
                due("trace(" + i + ")", x.trace(i), Sentence.within(i, 0, bodies.length - 1) ? bodies[i] : BAD);
            }
            for (int i = 0; i < bodies.length; i++) due("trace(" + i + ")", x.trace(i), bodies[i]);
            for (int i = 23; i <= 25; i++) due("trace(" + i + ")", x.trace(i), BAD);
        }
        x.act(0, 0, 0);
        due("the latest act alone", x.trace(0), 1);
        due("the latest act alone", x.trace(1), BAD);
        due("the latest act alone", x.count(6), 1);
    }

    private static void noTrace() {
        says("act() of what there is not: no TRACE.");
        int[][] none = {{1, 3}, {-1, 3}, {50, 3}, {LOW, 3}, {HIGH, 3}, {0, -1}, {0, 4}, {0, LOW}, {0, HIGH}, {-1, -1}};
        for (int[] n : none) {
            NameRests x = new NameRests();
            x.body(0);
            x.act(0, 3, 5);
            due("four ran", x.count(6), 4);
            due("act(" + n[0] + ", " + n[1] + ", 5)", x.act(n[0], n[1], 5), 0);
            due("none ran", x.count(6), 0);
            for (int i = -1; i < 5; i++) due("trace(" + i + ")", x.trace(i), BAD);
        }
    }

    // ---- shelves, rows

    private static void shelves() {
        says("SHELVES 0 .. 5 each hold nothing (at first), a BODY, or a ROW");
        for (int shelf : Sentence.around(0, 5)) {
            NameRests x = new NameRests();
            boolean is = Sentence.within(shelf, 0, 5);
            x.body(3);
            x.row(2, INTS, 4);
            due("taken(" + shelf + ", 0)", x.taken(shelf == 2 ? 1 : shelf, 0), is ? NOTHING : BAD);
            due("keep(" + shelf + ", 0)", x.keep(shelf, 0), is ? 1 : BAD);
            due("taken(" + shelf + ", 0)", x.taken(shelf, 0), is ? 3 : BAD);
            due("people(" + shelf + ", 0, 1)", x.people(shelf, 0, 1), is ? OTHER : BAD);
            due("row(" + shelf + ", 2, 4)", x.row(shelf, INTS, 4), is ? 1 : BAD);
            due("put(" + shelf + ", 0, 9)", x.put(shelf, 0, 9), is ? 1 : BAD);
            due("element(" + shelf + ", 0)", x.element(shelf, 0), is ? 9 : NO_ELEMENT);
            due("shift from " + shelf, x.shift(shelf, 0, is ? shelf : 2, 1, 1), is ? 1 : BAD);
            due("shift to " + shelf, x.shift(is ? shelf : 2, 0, shelf, 2, 1), is ? 1 : BAD);
            due("element(" + shelf + ", 2)", x.element(shelf, 2), is ? 9 : NO_ELEMENT);
            due("keep(" + shelf + ", -1)", x.keep(shelf, -1), is ? 1 : BAD);
            due("people(" + shelf + ", 0, 1)", x.people(shelf, 0, 1), is ? 0 : BAD);
        }
    }

    private static void shelvesAtFirst() {
        says("each hold nothing (at first)");
        for (int shelf = 0; shelf < 6; shelf++) {
            NameRests x = new NameRests();
            int next = (shelf + 1) % 6;
            x.row(next, INTS, 1);
            for (int kind = 0; kind < 8; kind++) due("taken", x.taken(shelf, kind), NOTHING);
            due("put", x.put(shelf, 0, 1), NOTHING);
            due("element", x.element(shelf, 0), NO_ELEMENT);
            due("shift from it", x.shift(shelf, 0, next, 0, 0), NOTHING);
            due("shift to it", x.shift(next, 0, shelf, 0, 0), NOTHING);
            due("people", x.people(shelf, 0, 1), 0);
        }
    }

    private static void sizesOfRows() {
        says("of 0 .. 60 elements");
        for (int sort = BYTES; sort <= BOOLEANS; sort++) {
            for (int n : Sentence.around(0, 60)) {
                NameRests x = new NameRests();
                boolean may = Sentence.within(n, 0, 60);
                due("row(3, " + sort + ", " + n + ")", x.row(3, sort, n), may ? 1 : n > 60 ? BAD : SIZE);
                if (!may) {
                    due("nothing is there", x.put(3, 0, 1), NOTHING);
                    continue;
                }
                due("the place ahead of the last one", x.put(3, n - 2, 1), n > 1 ? 1 : PLACE);
                due("the last place", x.put(3, n - 1, 1), n > 0 ? 1 : PLACE);
                due("behind it", x.put(3, n, 1), PLACE);
                due("the last place", x.element(3, n - 1), n > 0 ? 1 : NO_ELEMENT);
                due("behind it", x.element(3, n), NO_ELEMENT);
            }
        }
    }

    private static void sorts() {
        says("of 0 bytes, 1 shorts, 2 ints, 3 longs, 4 booleans");
        long[] kept = {-1, 0x7fff, 0x7fffffff, Long.MAX_VALUE, 1};
        long[] told = {0xff, 0x7fff, 0x7fffffff, Long.MAX_VALUE, Long.MAX_VALUE};
        for (int sort : Sentence.around(0, 4)) {
            NameRests x = new NameRests();
            boolean is = Sentence.within(sort, 0, 4);
            due("row(0, " + sort + ", 1)", x.row(0, sort, 1), is ? 1 : BAD);
            due("row(0, " + sort + ", -1)", x.row(0, sort, -1), is ? SIZE : BAD);
            if (!is) continue;
            x.put(0, 0, told[sort]);
            due("element(0, 0)", x.element(0, 0), kept[sort]);
        }
    }

    private static void zeroAtFirst() {
        says("0 at first (false)");
        for (int sort = BYTES; sort <= BOOLEANS; sort++) {
            NameRests x = new NameRests();
            x.row(0, sort, 60);
            for (int i = 0; i < 60; i++) due("element(0, " + i + ")", x.element(0, i), 0);
            for (int i = 0; i < 60; i++) x.put(0, i, -1);
            x.row(0, sort, 60);
            for (int i = 0; i < 60; i++) due("in a row anew, element(0, " + i + ")", x.element(0, i), 0);
        }
    }

    private static void lowestBits() {
        says("what is put in keeps its lowest bits");
        long[][] cases = {
            {BYTES, 127, 127}, {BYTES, 128, -128}, {BYTES, 255, -1}, {BYTES, 256, 0}, {BYTES, 257, 1}, {BYTES, -128, -128},
            {BYTES, -129, 127}, {BYTES, Long.MIN_VALUE, 0}, {BYTES, Long.MAX_VALUE, -1},
            {SHORTS, 32767, 32767}, {SHORTS, 32768, -32768}, {SHORTS, 65535, -1}, {SHORTS, 65536, 0}, {SHORTS, -32768, -32768},
            {SHORTS, -32769, 32767}, {SHORTS, Long.MIN_VALUE, 0}, {SHORTS, Long.MAX_VALUE, -1},
            {INTS, HIGH, HIGH}, {INTS, HIGH + 1L, LOW}, {INTS, 0xffffffffL, -1}, {INTS, 1L << 32, 0}, {INTS, LOW, LOW},
            {INTS, LOW - 1L, HIGH}, {INTS, Long.MIN_VALUE, 0}, {INTS, Long.MAX_VALUE, -1},
            {LONGS, HIGH + 1L, HIGH + 1L}, {LONGS, 1L << 32, 1L << 32}, {LONGS, Long.MAX_VALUE, Long.MAX_VALUE},
            {LONGS, Long.MIN_VALUE, Long.MIN_VALUE}, {LONGS, Long.MIN_VALUE + 1, Long.MIN_VALUE + 1}, {LONGS, -1, -1},
        };
        for (long[] c : cases) {
            NameRests x = new NameRests();
            x.row(0, (int) c[0], 3);
            due("put " + c[1], x.put(0, 1, c[1]), 1);
            due("sort " + c[0] + ", " + c[1], x.element(0, 1), c[2]);
            due("next to it", x.element(0, 0), 0);
            due("next to it", x.element(0, 2), 0);
        }
    }

    private static void booleans() {
        says("(a boolean: whether it is not 0; 1 or 0)");
        long[] values = {1, -1, 2, 256, 65536, 1L << 32, 1L << 63, Long.MAX_VALUE, 4};
        for (long v : values) {
            NameRests x = new NameRests();
            x.row(0, BOOLEANS, 1);
            due("put " + v, x.put(0, 0, v), 1);
            due("it is not 0", x.element(0, 0), 1);
            due("put 0", x.put(0, 0, 0), 1);
            due("it is 0", x.element(0, 0), 0);
        }
    }

    private static void nothingIsThere() {
        says("-11 nothing is there where something is wanted");
        NameRests x = new NameRests();
        x.body(0);
        x.keep(1, 0);
        x.row(2, INTS, 2);
        due("put", x.put(0, 0, 1), NOTHING);
        due("put, no place", x.put(0, -1, 1), NOTHING);
        due("put, no place", x.put(0, HIGH, 1), NOTHING);
        due("taken", x.taken(0, 0), NOTHING);
        due("shift from it", x.shift(0, 0, 2, 0, 1), NOTHING);
        due("shift to it", x.shift(2, 0, 0, 0, 1), NOTHING);
        due("shift to itself", x.shift(0, 0, 0, 0, 0), NOTHING);
        due("shift from a body to it", x.shift(1, 0, 0, 0, 1), NOTHING);
        due("shift from it to a body", x.shift(0, 0, 1, 0, 1), NOTHING);
        due("shift, no place", x.shift(0, -1, 2, 99, -1), NOTHING);
        due("element", x.element(0, 0), NO_ELEMENT);
        x.keep(2, -1);
        due("a row was taken away", x.put(2, 0, 1), NOTHING);
        x.keep(1, -1);
        due("a body was taken away", x.taken(1, 0), NOTHING);
    }

    private static void anotherKind() {
        says("-12 it is of another kind");
        int[] above = {1, 1 | 2, 1 | 4, 1 | 4 | 8, 1 | 2 | 16, 1 | 4 | 8 | 32, 1 | 64, 1 | 64 | 128};
        for (int kind = 0; kind < 8; kind++) {
            NameRests x = new NameRests();
            x.body(kind);
            x.keep(0, 0);
            x.row(1, INTS, 2);
            for (int k = 0; k < 8; k++) {
                due("kind " + kind + " for " + k, x.taken(0, k), (above[kind] >> k & 1) == 1 ? kind : OTHER);
                due("a row for " + k, x.taken(1, k), OTHER);
            }
            due("put", x.put(0, 0, 1), OTHER);
            due("put, no place", x.put(0, -1, 1), OTHER);
            due("element", x.element(0, 0), NO_ELEMENT);
            due("shift from a body", x.shift(0, 0, 1, 0, 1), OTHER);
            due("shift to a body", x.shift(1, 0, 0, 0, 1), OTHER);
            due("shift of bodies, no place", x.shift(0, -1, 0, -1, -1), OTHER);
        }
        for (int sort = BYTES; sort <= BOOLEANS; sort++) {
            NameRests x = new NameRests();
            x.row(0, sort, 1);
            for (int other = BYTES; other <= BOOLEANS; other++) {
                x.row(1, other, 1);
                due("sorts " + sort + ", " + other, x.shift(0, 0, 1, 0, 1), sort == other ? 1 : OTHER);
                due("no place", x.shift(0, 2, 1, 0, 1), sort == other ? PLACE : OTHER);
                due("no element", x.shift(0, 1, 1, 1, 0), sort == other ? 0 : OTHER);
            }
        }
    }

    private static void placesOfRows() {
        says("-13 a place that is not there");
        for (int size : new int[] {0, 1, 2, 59, 60}) {
            for (int i : Sentence.around(0, size - 1)) {
                NameRests x = new NameRests();
                boolean is = Sentence.within(i, 0, size - 1);
                x.row(5, SHORTS, size);
                due("put(5, " + i + ", 7) of " + size, x.put(5, i, 7), is ? 1 : PLACE);
                due("element(5, " + i + ") of " + size, x.element(5, i), is ? 7 : NO_ELEMENT);
            }
        }
    }

    private static void shiftedPlaces() {
        says("-13 (n below 0, too)");
        int[][] cases = {
            {0, 0, 3, 3}, {0, 0, 4, PLACE}, {0, 2, 3, 3}, {0, 3, 3, PLACE}, {0, 3, 2, 2}, {1, 0, 2, 2}, {1, 0, 3, PLACE},
            {2, 4, 1, 1}, {2, 5, 1, PLACE}, {3, 0, 1, PLACE}, {3, 5, 0, 0}, {3, 6, 0, PLACE}, {4, 0, 0, PLACE}, {4, 5, 0, PLACE},
            {-1, 0, 0, PLACE}, {0, -1, 0, PLACE}, {-1, 0, 1, PLACE}, {0, -1, 1, PLACE}, {0, 0, -1, PLACE}, {1, 1, -1, PLACE},
            {3, 5, -1, PLACE}, {0, 0, LOW, PLACE}, {0, 0, HIGH, PLACE}, {1, 1, HIGH, PLACE}, {2, 2, HIGH - 1, PLACE},
            {LOW, 0, 1, PLACE}, {HIGH, 0, 1, PLACE}, {0, LOW, 1, PLACE}, {0, HIGH, 1, PLACE}, {HIGH, HIGH, 1, PLACE},
            {HIGH, HIGH, HIGH, PLACE}, {LOW, LOW, LOW, PLACE}, {HIGH, 0, 0, PLACE}, {0, HIGH, 0, PLACE}, {0, 0, 0, 0}, {0, 0, 1, 1},
        };
        for (int[] c : cases) {
            NameRests x = new NameRests();
            x.row(0, INTS, 3);
            x.row(1, INTS, 5);
            Sentence.putAll(x, 0, 7, 8, 9);
            due("shift(0, " + c[0] + ", 1, " + c[1] + ", " + c[2] + ")", x.shift(0, c[0], 1, c[1], c[2]), c[3]);
            for (int k = 0; k < 5; k++) {
                boolean came = c[3] > 0 && k >= c[1] && k - c[1] < c[3];
                due("element(1, " + k + ")", x.element(1, k), came ? 7 + c[0] + k - c[1] : 0);
            }
        }
        NameRests longest = new NameRests();
        longest.row(0, LONGS, 60);
        longest.row(1, LONGS, 60);
        longest.put(0, 59, -5);
        due("all 60", longest.shift(0, 0, 1, 0, 60), 60);
        due("the last one came", longest.element(1, 59), -5);
        due("61", longest.shift(0, 0, 1, 0, 61), PLACE);
        due("60 from 1 on", longest.shift(0, 1, 1, 0, 60), PLACE);
        due("none at the end", longest.shift(0, 60, 1, 60, 0), 0);
        due("none behind it", longest.shift(0, 61, 1, 60, 0), PLACE);
    }

    private static void shiftedAsTheyWere() {
        says("n elements of a ROW from i on come to another one (or the same) from j on, as they all were before: n.");
        for (int i = 0; i <= 4; i++) {
            for (int j = 0; j <= 4; j++) {
                for (int n = 0; n <= 4 - Math.max(i, j); n++) {
                    NameRests x = new NameRests();
                    x.row(4, BYTES, 4);
                    Sentence.putAll(x, 4, 1, 2, 3, 4);
                    due("shift(4, " + i + ", 4, " + j + ", " + n + ")", x.shift(4, i, 4, j, n), n);
                    for (int k = 0; k < 4; k++) due("element", x.element(4, k), k >= j && k < j + n ? 1 + i + k - j : 1 + k);
                }
            }
        }
    }

    private static void sizeBelowZero() {
        says("-14 a size below 0");
        int[][] cases = {{0, 0, -1, SIZE}, {5, 4, LOW, SIZE}, {0, 0, 0, 1}, {6, 0, -1, BAD}, {-1, 0, -1, BAD}, {0, 5, -1, BAD},
            {0, -1, -1, BAD}, {0, 0, 61, BAD}, {0, 0, HIGH, BAD}};
        for (int[] c : cases) due("row(" + c[0] + ", " + c[1] + ", " + c[2] + ")", new NameRests().row(c[0], c[1], c[2]), c[3]);
    }

    // ---- people from rows

    private static void peopleFromMissing() {
        says("people(): a BODY is -12, a SHELF that holds nothing: 0 came.");
        NameRests x = new NameRests();
        x.body(0);
        x.keep(1, 0);
        for (int i : new int[] {LOW, -1, 0, 1, HIGH}) {
            due("nothing, from " + i, x.people(0, i, 12), 0);
            due("a body, from " + i, x.people(1, i, 12), OTHER);
            for (int sort = SHORTS; sort <= BOOLEANS; sort++) {
                x.row(2, sort, 6);
                due("sort " + sort + ", from " + i, x.people(2, i, 1), OTHER);
            }
            x.row(2, BYTES, 0);
            due("an empty row, from " + i, x.people(2, i, 1), 0);
        }
        due("nobody came", x.count(0), 0);
    }

    private static void peopleFromPlaces() {
        says("from place i on, n (1 .. 12) of them: how many came (0 with i below 0).");
        for (int i = -4; i <= 10; i++) {
            NameRests x = new NameRests();
            x.row(0, BYTES, 8);
            Sentence.putAll(x, 0, 10, 11, -1, 10, 11, -1, 10, 11);
            boolean may = i == 0 || i == 3;
            due("people(0, " + i + ", 1)", x.people(0, i, 1), may ? 1 : 0);
            due("count(0)", x.count(0), may ? 1 : 0);
        }
        for (int i : new int[] {LOW, LOW + 1, -3, HIGH, HIGH - 1, HIGH - 2, HIGH - 35}) {
            NameRests x = new NameRests();
            x.row(0, BYTES, 60);
            for (int k = 1; k < 60; k += 3) x.put(0, k, 1);
            due("people(0, " + i + ", 12)", x.people(0, i, 12), 0);
        }
    }

    private static void peopleFromEnds() {
        says("it ends where the row is missing, ends (within a three, too)");
        for (int size = 0; size <= 60; size++) {
            NameRests x = new NameRests();
            x.row(0, BYTES, size);
            for (int k = 1; k < size; k += 3) x.put(0, k, 50);
            int came = Math.min(12, size / 3);
            due("a row of " + size, x.people(0, 0, 12), came);
            due("count(0)", x.count(0), came);
        }
        for (int i = 50; i <= 62; i++) {
            NameRests x = new NameRests();
            x.row(0, BYTES, 60);
            for (int k = i + 1; k < 60; k += 3) x.put(0, k, 50);
            due("the longest row from " + i, x.people(0, i, 12), Math.max(0, 60 - i) / 3);
        }
    }

    private static void peopleAsTheyMayBe() {
        says("one is not as it may be, or PEOPLE are FULL: those ahead came.");
        for (int v = -128; v <= 127; v++) {
            threes(v, 100, 0, v >= 0 && v <= 99);
            threes(50, v, 0, v >= 51 && v <= 100);
            threes(0, v, -1, v >= 1 && v <= 100);
            threes(50, 60, v, v >= -1 && v <= 11);
        }
    }

    /** Three threes, of which the one in the middle is told: the first comes in any case, the last only behind it. */
    private static void threes(int born, int dies, int name, boolean may) {
        NameRests x = new NameRests();
        x.row(0, BYTES, 9);
        Sentence.putAll(x, 0, 1, 2, 3, born, dies, name, 4, 5, 6);
        String three = born + ", " + dies + ", " + name;
        due(three, x.people(0, 0, 3), may ? 3 : 1);
        due(three, x.count(0), may ? 3 : 1);
        due(three + " BORN", x.of(1, 0), may ? born : VOID);
        due(three + " DIES", x.of(1, 1), may ? dies : VOID);
        due(three + " NAME", x.of(1, 2), may ? name : VOID);
        due("the first one's NAME", x.of(0, 2), 3);
    }

    private static void peopleTillFull() {
        says("one is not as it may be, or PEOPLE are FULL: those ahead came.");
        for (int people = 0; people <= 12; people++) {
            NameRests x = Sentence.crowd(people);
            x.row(0, BYTES, 15);
            Sentence.putAll(x, 0, 7, 8, 9, 7, 8, 9, 7, 8, 9, 7, 8, 9, 7, 8, 9);
            int room = Math.min(5, 12 - people);
            due(people + " are there", x.people(0, 0, 12), room);
            due("count(0)", x.count(0), people + room);
            due("count(2)", x.count(2), room);
            due("of(" + people + ", 0)", x.of(people, 0), people < 12 ? 7 : VOID);
        }
    }

    private static void howManyPeople() {
        says("PEOPLE FROM A ROW on a SHELF, from place i on, n (1 .. 12) of them");
        for (int n : Sentence.around(1, 12)) {
            NameRests x = new NameRests();
            boolean may = Sentence.within(n, 1, 12);
            x.row(0, BYTES, 60);
            for (int k = 1; k < 60; k += 3) x.put(0, k, 1);
            due("people(0, 0, " + n + ")", x.people(0, 0, n), may ? n : BAD);
            due("count(0)", x.count(0), may ? n : 0);
            due("of nothing", x.people(1, 0, n), may ? 0 : BAD);
        }
    }
}
