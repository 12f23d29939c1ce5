import java.io.IOException;
import java.util.ArrayList;
import java.util.List;

/** What each promise refuses: which answer comes first, and that what is refused changes nothing. */
public final class RefusalsTest {
    private static final int BAD = Sentence.BAD, NOT = Sentence.NOT, FULL = Sentence.FULL, STATE = Sentence.STATE;
    private static final int VOID = Sentence.VOID, LOW = Sentence.LOW, HIGH = Sentence.HIGH;
    private static final int NOTHING = Sentence.NOTHING, OTHER = Sentence.OTHER, PLACE = Sentence.PLACE, SIZE = Sentence.SIZE;
    private static final long NO_ELEMENT = Long.MIN_VALUE;
    private static final int MOST_CALLS = 512;

    private interface Call {
        long on(NameRests x);
    }

    /** States, as the calls that lead to them. */
    private static final List<Call> NEW = List.of(), SOME = some(), FILLED = filled();
    /** Each looks at one part of the state, so that no object comes to more calls than it is used for. */
    private static final List<List<Call>> PROBES = List.of(peopleAndNames(), shelves(), lawAndTape(), changesAndImage());

    private RefusalsTest() { }

    public static void main(String[] args) throws IOException {
        Sentence.read();
        newObject();
        person();
        people();
        meet();
        hearingNameFame();
        mend();
        of();
        feed();
        law();
        knowsHeldFree();
        mostJudge();
        give();
        runUsed();
        apartFreedNever();
        needs();
        imageBack();
        undoRedo();
        body();
        actTrace();
        keepRow();
        putElement();
        shift();
        taken();
        count();
        readingChangesNothing();
        numbersOfAnswers();
        theOneNamedFirst();
        Sentence.everyPromise();
        Sentence.end();
    }

    // ---- states and what is seen of them

    private static List<Call> some() {
        List<Call> calls = new ArrayList<>();
        int[][] lives = {{0, 70}, {5, 60}, {20, 90}};
        for (int[] life : lives) calls.add(x -> x.person(life[0], life[1]));
        calls.add(x -> x.name(0, 0));
        calls.add(x -> x.name(1, 3));
        calls.add(x -> x.meet(1, 10));
        calls.add(x -> x.meet(102, 25));
        calls.add(x -> x.fame(3, 1));
        calls.add(x -> x.image());
        calls.add(x -> x.name(1, 4));
        calls.add(x -> x.mend(0, 1, 5));
        calls.add(x -> x.mend(1, 0, 61));
        calls.add(x -> x.mend(1, 0, 62));
        calls.add(x -> x.undo());
        calls.add(x -> x.body(3));
        calls.add(x -> x.body(5));
        calls.add(x -> x.act(1, 3, 9));
        addShelves(calls, 1);
        return calls;
    }

    private static List<Call> filled() {
        List<Call> calls = new ArrayList<>();
        int[][] lives = {{0, 70}, {5, 60}, {20, 90}, {22, 100}, {20, 30}, {45, 99}, {60, 61}, {99, 100}, {0, 1}, {0, 100},
            {50, 80}, {30, 95}};
        for (int[] life : lives) calls.add(x -> x.person(life[0], life[1]));
        for (int p = 0; p < 10; p++) {
            int person = p;
            calls.add(x -> x.name(person, person % 5));
        }
        int[][] meetings = {{1, 10}, {2, 25}, {203, 40}, {104, 22}, {205, 50}, {305, 62}, {900, 0}, {908, 0}, {907, 99}, {307, 99},
            {1011, 55}, {510, 70}, {211, 35}, {911, 60}, {309, 30}, {605, 60}};
        for (int[] m : meetings) calls.add(x -> x.meet(m[0], m[1]));
        calls.add(x -> x.hearing(1));
        calls.add(x -> x.fame(4, 1));
        addText(calls, "a<70&d<40|i");
        calls.add(x -> x.law());
        addChanges(calls);
        calls.add(x -> x.image());
        calls.add(x -> x.name(0, 11));
        calls.add(x -> x.name(10, 6));
        addText(calls, "w>3|".repeat(29) + "!i&n");
        for (int n = 0; n < 50; n++) {
            int kind = n % 8;
            calls.add(x -> x.body(kind));
        }
        calls.add(x -> x.act(5, 3, 9));
        addShelves(calls, 7);
        return calls;
    }

    private static void addText(List<Call> calls, String text) {
        for (char c : text.toCharArray()) calls.add(x -> x.feed(c));
    }

    /** 45 changes, so that 40 are kept; then 4 are undone. */
    private static void addChanges(List<Call> calls) {
        int[] mended = {9, 11, 3};
        for (int k = 0; k < 45; k++) {
            int number = k % 2 == 0 ? k / 2 % 12 : mended[k / 2 % 3];
            int v = k % 2 == 0 ? 2 + k % 7 : 62 + k % 37;
            int what = k % 2 == 0 ? 1 : 0;
            calls.add(x -> x.mend(number, what, v));
        }
        for (int k = 0; k < 4; k++) calls.add(x -> x.undo());
    }

    /** A body on 0, bytes on 1, ints on 2, longs (none) on 3, booleans on 4, nothing on 5. */
    private static void addShelves(List<Call> calls, int body) {
        calls.add(x -> x.keep(0, body));
        calls.add(x -> x.row(1, 0, 9));
        calls.add(x -> x.row(2, 2, 5));
        calls.add(x -> x.row(3, 3, 0));
        calls.add(x -> x.row(4, 4, 3));
        int[] bytes = {1, 2, 3, 4, 5, -1, 6, 7, 11};
        for (int i = 0; i < bytes.length; i++) {
            int at = i;
            calls.add(x -> x.put(1, at, bytes[at]));
        }
        calls.add(x -> x.put(2, 0, HIGH));
        calls.add(x -> x.put(2, 4, LOW));
        calls.add(x -> x.put(4, 2, 1));
    }

    private static List<Call> peopleAndNames() {
        List<Call> calls = new ArrayList<>();
        for (int k = 0; k < 16; k++) {
            int number = k;
            for (int what = 0; what <= 22; what++) {
                int asked = what;
                boolean isAsked = what >= 20 || k < 12 && (what < 4 || what >= 10 && what <= 12);
                if (isAsked) calls.add(x -> x.of(number, asked));
            }
        }
        for (int i = 0; i < 25; i++) {
            int at = i;
            calls.add(x -> x.trace(at));
        }
        for (int k = 0; k < 7; k++) {
            int what = k;
            calls.add(x -> x.count(what));
        }
        calls.add(x -> x.hearing(0));
        return calls;
    }

    private static List<Call> shelves() {
        List<Call> calls = new ArrayList<>();
        for (int k = 0; k < 6; k++) {
            int shelf = k;
            calls.add(x -> x.taken(shelf, 0));
            calls.add(x -> x.taken(shelf, 7));
            for (int i = 0; i < 12; i++) {
                int at = i;
                calls.add(x -> x.element(shelf, at));
            }
            calls.add(x -> x.shift(shelf, 0, 1, 0, 0));
            calls.add(x -> x.shift(shelf, 0, 2, 0, 0));
            calls.add(x -> x.shift(shelf, 0, 3, 0, 0));
            calls.add(x -> x.shift(shelf, 0, 4, 0, 0));
        }
        return calls;
    }

    private static List<Call> lawAndTape() {
        List<Call> calls = new ArrayList<>();
        addHolders(calls);
        calls.add(x -> x.law());
        addHolders(calls);
        return calls;
    }

    private static void addHolders(List<Call> calls) {
        for (int year : new int[] {0, 10, 25, 40, 50, 61, 75, 99}) {
            for (int v = 0; v < 12; v++) {
                int name = v;
                calls.add(x -> x.held(name, year, 1));
            }
        }
    }

    private static List<Call> changesAndImage() {
        List<Call> calls = new ArrayList<>();
        for (int k = 0; k < 41; k++) calls.add(x -> x.undo());
        addChanged(calls);
        for (int k = 0; k < 41; k++) calls.add(x -> x.redo());
        addChanged(calls);
        calls.add(x -> x.back());
        for (int p = 0; p < 12; p++) {
            int person = p;
            calls.add(x -> x.of(person, 2));
        }
        calls.add(x -> x.person(0, 1));
        calls.add(x -> x.meet(2, 30));
        calls.add(x -> x.feed(97));
        calls.add(x -> x.body(0));
        calls.add(x -> x.mend(0, 1, 9));
        calls.add(x -> x.undo());
        return calls;
    }

    private static void addChanged(List<Call> calls) {
        for (int k = 0; k < 12; k++) {
            int number = k;
            calls.add(x -> x.of(number, 1));
            calls.add(x -> x.of(number, 10));
        }
    }

    private static NameRests made(List<Call> state) {
        NameRests x = new NameRests();
        for (Call c : state) c.on(x);
        return x;
    }

    /** The call is answered so, and behind it all is as on an object on which it was not made. */
    private static void refused(List<Call> state, String told, Call call, long want) {
        for (List<Call> probe : PROBES) {
            NameRests x = made(state);
            NameRests y = made(state);
            Sentence.due(told, call.on(x), want);
            for (int k = 0; k < probe.size(); k++) {
                Sentence.due("what is seen behind " + told + " (" + k + ")", probe.get(k).on(x), probe.get(k).on(y));
            }
            if (state.size() + 1 + probe.size() > MOST_CALLS) Sentence.due("calls of a test", state.size() + probe.size(), 0);
        }
    }

    /** In a state with some of all and in one in which all is full. */
    private static void refusedInBoth(String told, Call call, long want) {
        refused(SOME, told, call, want);
        refused(FILLED, told, call, want);
    }

    private static void promises(int number, String words) {
        Sentence.promises(number, words);
    }

    // ---- people, meetings, names

    private static void newObject() {
        promises(1, "Nobody.");
        NameRests x = new NameRests();
        for (int what = 0; what <= 6; what++) Sentence.due("count(" + what + ")", x.count(what), 0);
        for (int year = 0; year < 100; year++) Sentence.due("free(" + year + ")", x.free(year), 4095);
        for (int number : new int[] {-1, 0, 11, 12}) {
            refused(NEW, "of(" + number + ", 0)", y -> y.of(number, 0), VOID);
            refused(NEW, "of(" + number + ", 20)", y -> y.of(number, 20), VOID);
            refused(NEW, "name(" + number + ", 0)", y -> y.name(number, 0), VOID);
            refused(NEW, "mend(" + number + ", 0, 50)", y -> y.mend(number, 0, 50), BAD);
            refused(NEW, "knows(" + number + ", 0)", y -> y.knows(number, 0), BAD);
            refused(NEW, "give(" + number + ", 0)", y -> y.give(number, 0), BAD);
            refused(NEW, "run(0, " + number + ")", y -> y.run(0, number), BAD);
            refused(NEW, "freed(" + number + ", 0)", y -> y.freed(number, 0), BAD);
            refused(NEW, "never(" + number + ")", y -> y.never(number), BAD);
            refused(NEW, "meet(1, " + number + ")", y -> y.meet(1, number), BAD);
        }
        refused(NEW, "judge()", y -> y.judge(), NOT);
        refused(NEW, "law()", y -> y.law(), -100);
        refused(NEW, "act(0, 0, 0)", y -> y.act(0, 0, 0), 0);
    }

    private static void person() {
        promises(2, "A PERSON: the number. BAD, FULL: 12.");
        int[][] bad = {{-1, 5}, {-1, 0}, {100, 101}, {100, 100}, {99, 101}, {5, 5}, {5, 4}, {0, 0}, {0, 101}, {LOW, HIGH}, {HIGH, LOW}};
        for (int[] b : bad) refusedInBoth("person(" + b[0] + ", " + b[1] + ")", x -> x.person(b[0], b[1]), BAD);
        int[][] good = {{0, 100}, {99, 100}, {0, 1}};
        for (int[] g : good) refused(FILLED, "person(" + g[0] + ", " + g[1] + ")", x -> x.person(g[0], g[1]), FULL);
    }

    private static void people() {
        promises(3, "BAD, -12 (no ROW of bytes; a SHELF that holds nothing is missing).");
        int[][] bad = {{-1, 0, 1}, {6, 0, 1}, {1, 0, 0}, {1, 0, 13}, {1, 0, -1}, {0, 0, 0}, {2, 0, 13}, {5, 0, 0}, {6, -1, 0}, {1, -1, 13}};
        for (int[] b : bad) refusedInBoth("people(" + b[0] + ", " + b[1] + ", " + b[2] + ")", x -> x.people(b[0], b[1], b[2]), BAD);
        for (int shelf : new int[] {0, 2, 3, 4}) {
            for (int i : new int[] {-1, 0, 99}) {
                refusedInBoth("people(" + shelf + ", " + i + ", 12)", x -> x.people(shelf, i, 12), OTHER);
            }
        }
        int[][] none = {{5, 0}, {5, -1}, {1, -1}, {1, 7}, {1, 8}, {1, 9}, {1, LOW}, {1, HIGH}};
        for (int[] n : none) refusedInBoth("people(" + n[0] + ", " + n[1] + ", 12)", x -> x.people(n[0], n[1], 12), 0);
        refused(FILLED, "people(1, 0, 12)", x -> x.people(1, 0, 12), 0);
    }

    private static void meet() {
        promises(4, "A MEETING (ab: 100 times the one and the other): its number. BAD (one and the same, one does not LIVE then), "
            + "FULL: 16.");
        int[][] bad = {{0, 10}, {101, 10}, {-1, 10}, {LOW, 10}, {HIGH, 10}, {12, 10}, {1200, 10}, {99, 10}, {1, 4}, {1, 70}, {1, -1},
            {1, 100}, {100, 4}, {2, 19}, {2, 70}};
        for (int[] b : bad) refusedInBoth("meet(" + b[0] + ", " + b[1] + ")", x -> x.meet(b[0], b[1]), BAD);
        refused(SOME, "meet(3, 10)", x -> x.meet(3, 10), BAD);
        refused(SOME, "meet(300, 10)", x -> x.meet(300, 10), BAD);
        refused(FILLED, "meet(1, 10)", x -> x.meet(1, 10), FULL);
        refused(FILLED, "meet(309, 50)", x -> x.meet(309, 50), FULL);
    }

    private static void hearingNameFame() {
        promises(5, "HEARING becomes v: what it was. BAD.");
        for (int v : new int[] {-1, 2, LOW, HIGH}) refusedInBoth("hearing(" + v + ")", x -> x.hearing(v), BAD);
        promises(6, "The NAME of a PERSON becomes v (-1: none): what it was. VOID: BAD.");
        int[][] names = {{-1, 0}, {12, 0}, {LOW, 0}, {HIGH, 0}, {0, -2}, {0, 12}, {0, LOW}, {0, HIGH}, {12, 12}};
        for (int[] n : names) refusedInBoth("name(" + n[0] + ", " + n[1] + ")", x -> x.name(n[0], n[1]), VOID);
        refused(SOME, "name(3, 0)", x -> x.name(3, 0), VOID);
        promises(7, "FAME of a NAME becomes v: what it was. BAD.");
        int[][] fames = {{-1, 1}, {12, 1}, {LOW, 0}, {HIGH, 0}, {0, -1}, {0, 2}, {3, 2}, {3, -1}, {12, 2}};
        for (int[] f : fames) refusedInBoth("fame(" + f[0] + ", " + f[1] + ")", x -> x.fame(f[0], f[1]), BAD);
    }

    private static void mend() {
        promises(8, "DIES (what 0) of a PERSON, WORTH (1) of a NAME becomes v: what it was. BAD.");
        int[][] bad = {{-1, 0, 50}, {12, 0, 50}, {0, 0, 0}, {0, 0, 101}, {1, 0, 5}, {2, 0, 20}, {2, 0, 19}, {0, 0, LOW}, {0, 0, HIGH},
            {-1, 1, 5}, {12, 1, 5}, {0, 1, -1}, {0, 1, 10}, {11, 1, LOW}, {11, 1, HIGH}, {0, -1, 5}, {0, 2, 5}, {0, LOW, 5}, {0, HIGH, 5}};
        for (int[] b : bad) refusedInBoth("mend(" + b[0] + ", " + b[1] + ", " + b[2] + ")", x -> x.mend(b[0], b[1], b[2]), BAD);
        refused(SOME, "mend(3, 0, 50)", x -> x.mend(3, 0, 50), BAD);
        refused(SOME, "the same WORTH", x -> x.mend(0, 1, 5), 5);
        refused(SOME, "the same DIES", x -> x.mend(1, 0, 61), 61);
        refused(FILLED, "the same DIES", x -> x.mend(5, 0, 99), 99);
    }

    private static void of() {
        promises(9, "Of a PERSON: 0 BORN, 1 DIES, 2 its NAME, 3 its place in THE ORDER; of a NAME: 10 WORTH, 11 FAME, 12 its bearers "
            + "(bits); of a MEETING: 20 100 times the one and the other, 21 the YEAR, 22 whether it counts (1, 0). VOID: BAD.");
        NameRests x = made(FILLED);
        for (int what = -3; what <= 30; what++) {
            boolean is = what >= 0 && what <= 3 || what >= 10 && what <= 12 || what >= 20 && what <= 22;
            Sentence.due("of(0, " + what + ") is VOID", x.of(0, what) == VOID ? 1 : 0, is ? 0 : 1);
        }
        int[][] bad = {{-1, 0}, {12, 3}, {-1, 10}, {12, 12}, {-1, 20}, {16, 22}, {0, -1}, {0, 4}, {0, 9}, {0, 13}, {0, 19}, {0, 23},
            {0, LOW}, {0, HIGH}, {LOW, 0}, {HIGH, 22}};
        for (int[] b : bad) refusedInBoth("of(" + b[0] + ", " + b[1] + ")", y -> y.of(b[0], b[1]), VOID);
        refused(SOME, "of(3, 0)", y -> y.of(3, 0), VOID);
        refused(SOME, "of(2, 20)", y -> y.of(2, 20), VOID);
        Sentence.due("of(11, 3)", x.of(11, 3), 7);
        Sentence.due("of(15, 20)", x.of(15, 20), 605);
        Sentence.due("of(4, 12)", x.of(4, 12), 1 << 4 | 1 << 9);
    }

    private static void feed() {
        promises(10, "A byte (0 .. 255) comes to THE TAPE: how many it has. BAD, FULL (120).");
        for (int letter : new int[] {-1, 256, LOW, HIGH}) refusedInBoth("feed(" + letter + ")", x -> x.feed(letter), BAD);
        for (int letter : new int[] {0, 97, 255}) refused(FILLED, "feed(" + letter + ")", x -> x.feed(letter), FULL);
    }

    private static void law() {
        promises(11, "THE TAPE becomes THE LAW: 1; -100 less its FAULT; THE TAPE is empty then.");
        String[] faulty = {"", "q", "i?1;q", "0+", "(((((((1", "12345"};
        int[] places = {0, 0, 4, 2, 6, 4};
        for (int k = 0; k < faulty.length; k++) {
            String text = faulty[k];
            refused(SOME, "the law '" + text + "'", x -> Sentence.tell(x, text), -100 - places[k]);
        }
        List<Call> withLaw = new ArrayList<>(SOME);
        addText(withLaw, "a<30|i");
        withLaw.add(x -> x.law());
        for (int k = 0; k < faulty.length; k++) {
            String text = faulty[k];
            refused(withLaw, "the law '" + text + "'", x -> Sentence.tell(x, text), -100 - places[k]);
        }
        NameRests x = made(FILLED);
        Sentence.due("120 bytes", x.count(3), 120);
        Sentence.due("law()", x.law(), 1);
        Sentence.due("none", x.count(3), 0);
        Sentence.due("law() again", x.law(), -100);
    }

    // ---- who knows, which are held

    private static void knowsHeldFree() {
        promises(12, "KNOWS, as bits (of one who does not LIVE then, too). BAD.");
        int[][] knows = {{-1, 0}, {12, 0}, {0, -1}, {0, 100}, {LOW, 0}, {HIGH, 0}, {0, LOW}, {0, HIGH}};
        for (int[] k : knows) refusedInBoth("knows(" + k[0] + ", " + k[1] + ")", x -> x.knows(k[0], k[1]), BAD);
        refused(SOME, "knows(3, 0)", x -> x.knows(3, 0), BAD);
        Sentence.due("not born yet", made(SOME).knows(2, 19), 4);
        Sentence.due("dead", made(SOME).knows(0, 99), 3);
        promises(13, "Of a NAME in a YEAR: whether it is HELD (what 0: 1, 0), HOLDERS (1, bits), TILL (2; NOT). BAD.");
        int[][] held = {{-1, 0, 0}, {12, 0, 0}, {0, -1, 0}, {0, 100, 0}, {0, 0, -1}, {0, 0, 3}, {0, 0, LOW}, {0, 0, HIGH}, {LOW, 0, 1},
            {HIGH, 0, 2}, {0, LOW, 1}, {0, HIGH, 2}, {0, 100, 2}, {0, -1, 2}, {12, 50, 1}};
        for (int[] h : held) refusedInBoth("held(" + h[0] + ", " + h[1] + ", " + h[2] + ")", x -> x.held(h[0], h[1], h[2]), BAD);
        refused(SOME, "held(0, 99, 2)", x -> x.held(0, 99, 2), 99);
        refused(FILLED, "held(4, 20, 2)", x -> x.held(4, 20, 2), NOT);
        promises(14, "FREE NAMES in a YEAR, as bits. BAD.");
        for (int year : new int[] {-1, 100, LOW, HIGH}) refusedInBoth("free(" + year + ")", x -> x.free(year), BAD);
    }

    private static void mostJudge() {
        promises(15, "MOST: how many (what 0), the YEAR (1). BAD.");
        for (int what : new int[] {-1, 2, LOW, HIGH}) refusedInBoth("most(" + what + ")", x -> x.most(what), BAD);
        promises(16, "JUDGED. NOT.");
        refused(SOME, "judge()", x -> x.judge(), NOT);
        Sentence.due("judge()", new NameRests().judge(), NOT);
    }

    // ---- giving

    private static void give() {
        promises(17, "A PERSON without a NAME has one GIVEN in deed by a WAY (0 .. 2): it. BAD; STATE: it has one; NOT.");
        int[][] bad = {{-1, 0}, {12, 0}, {LOW, 0}, {HIGH, 0}, {2, -1}, {2, 3}, {2, LOW}, {2, HIGH}, {0, -1}, {0, 3}, {12, 3}};
        for (int[] b : bad) refusedInBoth("give(" + b[0] + ", " + b[1] + ")", x -> x.give(b[0], b[1]), BAD);
        refused(SOME, "give(3, 0)", x -> x.give(3, 0), BAD);
        for (int way = 0; way < 3; way++) {
            int by = way;
            refusedInBoth("give(0, " + way + ")", x -> x.give(0, by), STATE);
            refusedInBoth("give(1, " + way + ")", x -> x.give(1, by), STATE);
            NameRests x = made(SOME);
            Sentence.due("in deed, way " + way, x.give(2, by), x.of(2, 2));
            Sentence.due("it has one now", x.give(2, by), STATE);
        }
    }

    private static void runUsed() {
        promises(18, "RUN by a WAY: the NAME of a PERSON (NOT: without). BAD.");
        int[][] runs = {{-1, 0}, {3, 0}, {LOW, 0}, {HIGH, 0}, {0, -1}, {0, 12}, {0, LOW}, {0, HIGH}};
        for (int[] r : runs) refusedInBoth("run(" + r[0] + ", " + r[1] + ")", x -> x.run(r[0], r[1]), BAD);
        refused(SOME, "run(0, 3)", x -> x.run(0, 3), BAD);
        promises(19, "RUN by a WAY: how many NAMES (what 0), the sum of WORTHS (1), how many are without (2). BAD.");
        int[][] used = {{-1, 0}, {3, 0}, {LOW, 0}, {HIGH, 0}, {0, -1}, {0, 3}, {0, LOW}, {0, HIGH}};
        for (int[] u : used) refusedInBoth("used(" + u[0] + ", " + u[1] + ")", x -> x.used(u[0], u[1]), BAD);
    }

    private static void apartFreedNever() {
        promises(20, "APART, as bits. BAD; NOT.");
        int[][] apart = {{-1, 0}, {12, 0}, {LOW, 0}, {HIGH, 0}, {0, -1}, {0, 100}, {0, LOW}, {0, HIGH}};
        for (int[] a : apart) refusedInBoth("apart(" + a[0] + ", " + a[1] + ")", x -> x.apart(a[0], a[1]), BAD);
        refused(SOME, "apart(0, 69)", x -> x.apart(0, 69), NOT);
        refused(FILLED, "apart(4, 99)", x -> x.apart(4, 99), NOT);
        promises(21, "FREED, as bits. BAD.");
        int[][] freed = {{-1, 0}, {12, 0}, {LOW, 0}, {HIGH, 0}, {0, -1}, {0, 100}, {0, LOW}, {0, HIGH}};
        for (int[] f : freed) refusedInBoth("freed(" + f[0] + ", " + f[1] + ")", x -> x.freed(f[0], f[1]), BAD);
        refused(SOME, "freed(3, 0)", x -> x.freed(3, 0), BAD);
        promises(22, "NEVER, as bits (of one without a NAME: 0). BAD.");
        for (int p : new int[] {-1, 12, LOW, HIGH}) refusedInBoth("never(" + p + ")", x -> x.never(p), BAD);
        refused(SOME, "never(3)", x -> x.never(3), BAD);
        refused(SOME, "never(2)", x -> x.never(2), 0);
        Sentence.due("two without a NAME", Sentence.crowd(2).never(0), 0);
    }

    private static void needs() {
        promises(23, "NEEDS: the mean (what 0), the most (1). BAD.");
        int[][] bad = {{0, 0}, {21, 0}, {-1, 0}, {LOW, 0}, {HIGH, 0}, {1, -1}, {1, 2}, {1, LOW}, {1, HIGH}, {0, 2}};
        for (int[] b : bad) {
            refusedInBoth("needs(7, " + b[0] + ", " + b[1] + ")", x -> x.needs(7, b[0], b[1]), BAD);
            refused(NEW, "needs(7, " + b[0] + ", " + b[1] + ")", x -> x.needs(7, b[0], b[1]), BAD);
        }
    }

    private static void imageBack() {
        promises(24, "AN IMAGE is kept: how many PEOPLE.");
        Sentence.due("nobody", made(NEW).image(), 0);
        Sentence.due("three", made(SOME).image(), 3);
        Sentence.due("twelve", made(FILLED).image(), 12);
        promises(25, "The NAMES of PEOPLE are as in THE IMAGE (of those who came since: as they are): how many PEOPLE it knew. "
            + "STATE: there is none.");
        refused(NEW, "back()", x -> x.back(), STATE);
        refused(people(3), "back()", x -> x.back(), STATE);
        NameRests x = made(SOME);
        x.person(0, 100);
        x.name(3, 9);
        Sentence.due("back()", x.back(), 3);
        Sentence.due("as in the image", x.of(1, 2), 3);
        Sentence.due("as in the image: none", x.of(2, 2), -1);
        Sentence.due("who came since", x.of(3, 2), 9);
    }

    private static List<Call> people(int n) {
        List<Call> calls = new ArrayList<>();
        for (int p = 0; p < n; p++) calls.add(x -> x.person(0, 100));
        calls.add(x -> x.name(0, 5));
        return calls;
    }

    private static void undoRedo() {
        promises(26, "UNDONE: how many may still be. STATE: none.");
        refused(NEW, "undo()", x -> x.undo(), STATE);
        refused(people(3), "undo()", x -> x.undo(), STATE);
        List<Call> allUndone = new ArrayList<>(SOME);
        for (int k = 0; k < 2; k++) allUndone.add(x -> x.undo());
        refused(allUndone, "undo()", x -> x.undo(), STATE);
        NameRests x = made(FILLED);
        for (int left = 35; left >= 0; left--) Sentence.due("undo()", x.undo(), left);
        Sentence.due("undo()", x.undo(), STATE);
        promises(27, "DONE AGAIN: how many may still be. STATE: none.");
        refused(NEW, "redo()", y -> y.redo(), STATE);
        refused(people(3), "redo()", y -> y.redo(), STATE);
        List<Call> noneUndone = new ArrayList<>(SOME);
        noneUndone.add(y -> y.redo());
        refused(noneUndone, "redo()", y -> y.redo(), STATE);
        List<Call> anotherBehind = new ArrayList<>(SOME);
        anotherBehind.add(y -> y.mend(11, 1, 0));
        refused(anotherBehind, "redo()", y -> y.redo(), STATE);
        for (int left = 39; left >= 0; left--) Sentence.due("redo()", x.redo(), left);
        Sentence.due("redo()", x.redo(), STATE);
    }

    // ---- acts, shelves

    private static void body() {
        promises(28, "A BODY of a KIND (0 .. 7) is kept: its number. BAD, FULL.");
        for (int kind : new int[] {-1, 8, LOW, HIGH}) refusedInBoth("body(" + kind + ")", x -> x.body(kind), BAD);
        for (int kind : new int[] {0, 7}) refused(FILLED, "body(" + kind + ")", x -> x.body(kind), FULL);
    }

    private static void actTrace() {
        promises(29, "An ACT (0 .. 3) of a BODY with x. 0, and no TRACE then: no such BODY, ACT.");
        int[][] none = {{-1, 0}, {50, 0}, {LOW, 0}, {HIGH, 3}, {0, -1}, {0, 4}, {0, LOW}, {0, HIGH}, {50, 4}};
        for (int[] n : none) {
            String told = "act(" + n[0] + ", " + n[1] + ", 9)";
            refused(withoutTrace(SOME), told, x -> x.act(n[0], n[1], 9), 0);
            refused(withoutTrace(FILLED), told, x -> x.act(n[0], n[1], 9), 0);
            NameRests x = made(FILLED);
            Sentence.due("ran ahead of it", x.count(6), 10);
            Sentence.due(told, x.act(n[0], n[1], 9), 0);
            Sentence.due("no trace behind it", x.count(6), 0);
            Sentence.due("no trace behind it", x.trace(0), BAD);
        }
        refused(withoutTrace(SOME), "act(2, 0, 9)", x -> x.act(2, 0, 9), 0);
        promises(30, "THE TRACE's i-th body. BAD.");
        for (int i : new int[] {-1, 10, 23, 24, 25, LOW, HIGH}) refusedInBoth("trace(" + i + ")", x -> x.trace(i), BAD);
        refused(NEW, "trace(0)", x -> x.trace(0), BAD);
    }

    private static List<Call> withoutTrace(List<Call> state) {
        List<Call> calls = new ArrayList<>(state);
        calls.add(x -> x.act(-1, 0, 0));
        return calls;
    }

    private static void keepRow() {
        promises(31, "A SHELF holds nothing (body -1), or a BODY: 1. BAD.");
        int[][] keeps = {{-1, 0}, {6, 0}, {-1, -1}, {6, -1}, {LOW, 0}, {HIGH, 0}, {0, -2}, {1, 50}, {5, 50}, {2, LOW}, {2, HIGH}};
        for (int[] k : keeps) refusedInBoth("keep(" + k[0] + ", " + k[1] + ")", x -> x.keep(k[0], k[1]), BAD);
        refused(SOME, "keep(1, 2)", x -> x.keep(1, 2), BAD);
        refused(NEW, "keep(0, 0)", x -> x.keep(0, 0), BAD);
        refused(NEW, "keep(0, -1)", x -> x.keep(0, -1), 1);
        promises(32, "A SHELF holds a ROW: 1. BAD (sort, n above 60); -14.");
        int[][] bad = {{-1, 0, 1}, {6, 0, 1}, {LOW, 0, 1}, {HIGH, 0, 1}, {1, -1, 1}, {1, 5, 1}, {1, LOW, 1}, {1, HIGH, 1}, {1, 0, 61},
            {0, 0, 61}, {5, 0, HIGH}, {6, 0, -1}, {1, 5, -1}, {-1, 5, 61}};
        for (int[] b : bad) refusedInBoth("row(" + b[0] + ", " + b[1] + ", " + b[2] + ")", x -> x.row(b[0], b[1], b[2]), BAD);
        for (int shelf = 0; shelf < 6; shelf++) {
            int at = shelf;
            refusedInBoth("row(" + shelf + ", 2, -1)", x -> x.row(at, 2, -1), SIZE);
            refusedInBoth("row(" + shelf + ", 4, " + LOW + ")", x -> x.row(at, 4, LOW), SIZE);
        }
    }

    private static void putElement() {
        promises(33, "Element i of a ROW becomes v: 1. BAD, -11, -12, -13.");
        int[][] puts = {{-1, 0, BAD}, {6, 0, BAD}, {LOW, -1, BAD}, {HIGH, 99, BAD}, {5, 0, NOTHING}, {5, -1, NOTHING}, {5, 60, NOTHING},
            {0, 0, OTHER}, {0, -1, OTHER}, {0, 60, OTHER}, {1, -1, PLACE}, {1, 9, PLACE}, {2, 5, PLACE}, {3, 0, PLACE}, {4, 3, PLACE},
            {2, LOW, PLACE}, {2, HIGH, PLACE}, {3, -1, PLACE}};
        for (int[] p : puts) refusedInBoth("put(" + p[0] + ", " + p[1] + ", 77)", x -> x.put(p[0], p[1], 77), p[2]);
        promises(34, "Element i of a ROW; Long.MIN_VALUE: BAD, -11 to -13.");
        for (int[] p : puts) refusedInBoth("element(" + p[0] + ", " + p[1] + ")", x -> x.element(p[0], p[1]), NO_ELEMENT);
        Sentence.due("element(2, 4)", made(SOME).element(2, 4), LOW);
    }

    private static void shift() {
        promises(35, "BAD, -11 (either), -12 (no ROWS, or of unlike sorts), -13 (n below 0, too).");
        int[][] cases = {
            {-1, 0, 1, 0, 1, BAD}, {6, 0, 1, 0, 1, BAD}, {1, 0, -1, 0, 1, BAD}, {1, 0, 6, 0, 1, BAD}, {6, 0, 5, 0, -1, BAD},
            {5, 0, LOW, 0, 1, BAD}, {HIGH, 9, HIGH, 9, 9, BAD},
            {5, 0, 1, 0, 1, NOTHING}, {1, 0, 5, 0, 1, NOTHING}, {5, 0, 5, 0, 0, NOTHING}, {5, 0, 0, 0, 1, NOTHING},
            {0, 0, 5, 0, 1, NOTHING}, {5, -1, 1, 99, -1, NOTHING},
            {0, 0, 1, 0, 1, OTHER}, {1, 0, 0, 0, 1, OTHER}, {0, 0, 0, 0, 0, OTHER}, {1, 0, 2, 0, 1, OTHER}, {4, 0, 1, 0, 1, OTHER},
            {3, 0, 2, 0, 0, OTHER}, {1, -1, 2, 99, -1, OTHER},
            {1, 0, 1, 1, 9, PLACE}, {1, 1, 1, 0, 9, PLACE}, {1, 0, 1, 0, 10, PLACE}, {1, -1, 1, 0, 1, PLACE}, {1, 0, 1, -1, 1, PLACE},
            {1, 0, 1, 1, -1, PLACE}, {1, 9, 1, 0, 1, PLACE}, {1, 0, 1, 9, 1, PLACE}, {1, 10, 1, 0, 0, PLACE}, {1, 0, 1, 10, 0, PLACE},
            {3, 0, 3, 0, 1, PLACE}, {3, 1, 3, 0, 0, PLACE}, {1, 1, 1, 2, HIGH, PLACE}, {1, HIGH, 1, HIGH, HIGH, PLACE},
            {1, 0, 1, 0, LOW, PLACE}, {3, 0, 3, 0, 0, 0}, {1, 9, 1, 9, 0, 0}, {1, 0, 1, 0, 9, 9},
        };
        for (int[] c : cases) {
            String told = "shift(" + c[0] + ", " + c[1] + ", " + c[2] + ", " + c[3] + ", " + c[4] + ")";
            refusedInBoth(told, x -> x.shift(c[0], c[1], c[2], c[3], c[4]), c[5]);
        }
    }

    private static void taken() {
        promises(36, "What a SHELF holds, taken for a BODY of KIND k (0 .. 7), or under it: its KIND. BAD, -11, -12.");
        int[][] cases = {{-1, 0, BAD}, {6, 0, BAD}, {LOW, 0, BAD}, {HIGH, 0, BAD}, {0, -1, BAD}, {0, 8, BAD}, {5, 8, BAD}, {1, -1, BAD},
            {1, LOW, BAD}, {1, HIGH, BAD}, {5, 0, NOTHING}, {5, 7, NOTHING}, {1, 0, OTHER}, {2, 7, OTHER}, {3, 0, OTHER}, {4, 0, OTHER},
            {0, 1, OTHER}, {0, 4, OTHER}};
        for (int[] c : cases) refusedInBoth("taken(" + c[0] + ", " + c[1] + ")", x -> x.taken(c[0], c[1]), c[2]);
        Sentence.due("taken(0, 7)", made(FILLED).taken(0, 7), 7);
        Sentence.due("taken(0, 6)", made(FILLED).taken(0, 6), 7);
        Sentence.due("taken(0, 7)", made(SOME).taken(0, 7), OTHER);
    }

    private static void count() {
        promises(37, "How many: 0 PEOPLE, 1 MEETINGS, 2 PEOPLE with a NAME, 3 bytes on THE TAPE, 4 changes that may be UNDONE, 5 BODIES, "
            + "6 bodies that ran in the latest act() (all, kept or not). BAD.");
        int[] some = {3, 2, 2, 0, 2, 2, 10}, filled = {12, 16, 11, 120, 36, 50, 10};
        for (int what = 0; what < 7; what++) {
            Sentence.due("some: count(" + what + ")", made(SOME).count(what), some[what]);
            Sentence.due("filled: count(" + what + ")", made(FILLED).count(what), filled[what]);
        }
        for (int what : new int[] {-1, 7, LOW, HIGH}) refusedInBoth("count(" + what + ")", x -> x.count(what), BAD);
    }

    /** Calls that only look, or that are in thought. */
    private static void readingChangesNothing() {
        Sentence.says("RUN by a WAY, in thought");
        for (int way = 0; way < 3; way++) {
            int by = way;
            looks("run(" + way + ", 2)", x -> x.run(by, 2));
            for (int w = 0; w < 3; w++) {
                int what = w;
                looks("used(" + way + ", " + w + ")", x -> x.used(by, what));
            }
        }
        Sentence.says("NEEDS: n times (1 .. 20) by a SEED, in thought");
        looks("needs(7, 1, 0)", x -> x.needs(7, 1, 0));
        looks("needs(7, 20, 1)", x -> x.needs(7, 20, 1));
        Sentence.says("What is answered so changes nothing.");
        looks("knows(1, 50)", x -> x.knows(1, 50));
        for (int w = 0; w < 3; w++) {
            int what = w;
            looks("held(0, 50, " + w + ")", x -> x.held(0, 50, what));
        }
        looks("free(50)", x -> x.free(50));
        looks("most(0)", x -> x.most(0));
        looks("judge()", x -> x.judge());
        looks("apart(0, 75)", x -> x.apart(0, 75));
        looks("freed(0, 50)", x -> x.freed(0, 50));
        looks("never(0)", x -> x.never(0));
        looks("count(0)", x -> x.count(0));
        looks("of(0, 3)", x -> x.of(0, 3));
        looks("element(1, 3)", x -> x.element(1, 3));
        looks("taken(0, 0)", x -> x.taken(0, 0));
        looks("trace(3)", x -> x.trace(3));
    }

    private static void numbersOfAnswers() {
        Sentence.says("NOT (-2): as told; FULL (-3); STATE (-5): as told; -11 to -14. VOID is -2000000000.");
        Sentence.due("BAD", NameRests.BAD, -1);
        Sentence.due("NOT", NameRests.NOT, -2);
        Sentence.due("FULL", NameRests.FULL, -3);
        Sentence.due("STATE", NameRests.STATE, -5);
        Sentence.due("VOID", NameRests.VOID, -2000000000);
    }

    /** Calls for which two answers or more are due at once. */
    private static void theOneNamedFirst() {
        Sentence.says("Answers, of several the one named first: BAD (-1)");
        NameRests x = made(FILLED);
        Sentence.due("person: BAD, FULL", x.person(5, 5), BAD);
        Sentence.due("person: FULL", x.person(5, 6), FULL);
        Sentence.due("people: BAD, -12", x.people(0, 0, 13), BAD);
        Sentence.due("people: -12, 0 with i below 0", x.people(0, -1, 12), OTHER);
        Sentence.due("meet: BAD, FULL", x.meet(0, 10), BAD);
        Sentence.due("meet: FULL", x.meet(1, 10), FULL);
        Sentence.due("feed: BAD, FULL", x.feed(256), BAD);
        Sentence.due("feed: FULL", x.feed(255), FULL);
        Sentence.due("give: BAD, STATE", x.give(0, 3), BAD);
        Sentence.due("give: STATE", x.give(0, 2), STATE);
        Sentence.due("body: BAD, FULL", x.body(8), BAD);
        Sentence.due("body: FULL", x.body(7), FULL);
        Sentence.due("row: BAD, -14", x.row(0, 5, -1), BAD);
        Sentence.due("row: -14", x.row(0, 4, -1), SIZE);
        Sentence.due("put: BAD, -13", x.put(6, -1, 1), BAD);
        Sentence.due("put: -11, -13", x.put(5, -1, 1), NOTHING);
        Sentence.due("put: -12, -13", x.put(0, -1, 1), OTHER);
        Sentence.due("put: -13", x.put(1, -1, 1), PLACE);
        Sentence.due("shift: BAD, -11", x.shift(5, -1, 6, -1, -1), BAD);
        Sentence.due("shift: -11, -12", x.shift(0, -1, 5, -1, -1), NOTHING);
        Sentence.due("shift: -11, -13", x.shift(5, -1, 1, -1, -1), NOTHING);
        Sentence.due("shift: -12, -13", x.shift(0, -1, 1, -1, -1), OTHER);
        Sentence.due("shift: -12, -13", x.shift(1, -1, 2, -1, -1), OTHER);
        Sentence.due("shift: -13", x.shift(1, -1, 1, -1, -1), PLACE);
        Sentence.due("taken: BAD, -11", x.taken(5, 8), BAD);
        Sentence.due("taken: BAD, -12", x.taken(1, -1), BAD);
        Sentence.due("apart: BAD, NOT", x.apart(4, 100), BAD);
        Sentence.due("apart: NOT", x.apart(4, 99), NOT);
        Sentence.due("held: BAD, NOT", x.held(4, 100, 2), BAD);
        Sentence.due("held: NOT", x.held(4, 99, 2), NOT);
    }

    private static void looks(String told, Call call) {
        refused(SOME, told, call, call.on(made(SOME)));
        refused(FILLED, told, call, call.on(made(FILLED)));
    }
}
