import java.io.IOException;

/** The bounds that 'Terms' names for people, names and meetings: each at itself and next to it. */
public final class TermsBoundsTest {
    private static final int BAD = Sentence.BAD, NOT = Sentence.NOT, FULL = Sentence.FULL, STATE = Sentence.STATE;
    private static final int VOID = Sentence.VOID, LOW = Sentence.LOW, HIGH = Sentence.HIGH;

    private TermsBoundsTest() { }

    public static void main(String[] args) throws IOException {
        Sentence.read();
        calls512();
        years();
        peopleAreNumbered();
        numbersOfPeople();
        born();
        dies();
        lives();
        names();
        order();
        worthAndFame();
        meetingsAreNumbered();
        meetingsOfTwo();
        meetingsCountByDiesNow();
        hearing();
        knowsOneself();
        knowsUpToTheYear();
        knowsByNumbers();
        knowsBothAtOnce();
        holdersLive();
        heldByFame();
        bornByThen();
        namedByThoseAhead();
        till();
        most();
        judged();
        judgedOfTheSameYear();
        givenLeast();
        givenLatest();
        givenNeverHeldLast();
        givenMostWorth();
        givenTheLastName();
        runAsThoughNoneHadNames();
        runGivesAll();
        apartFewest();
        apartFewestOfUnlike();
        apartNot();
        apartNoneIfFree();
        freed();
        never();
        needsTimes();
        needsWrap();
        needsMeanIsCut();
        needsDrawnDies();
        changesKept();
        changesAgain();
        theSameNumber();
        image();
        Sentence.end();
    }

    private static void says(String words) {
        Sentence.says(words);
    }

    private static void due(String call, long got, long want) {
        Sentence.due(call, got, want);
    }

    private static NameRests with(int... lives) {
        return Sentence.with(lives);
    }

    // ---- people, names, meetings

    private static void calls512() {
        says("An object is used for at most 512 calls after it has been made; what later calls answer is free.");
        NameRests x = new NameRests();
        for (int call = 1; call <= 512; call++) due("call " + call, x.mend(call % 12, 1, call % 10), worthAheadOf(call));
        NameRests y = new NameRests();
        for (int call = 1; call <= 510; call++) y.feed(call == 1 ? 'a' : 256);
        due("call 511", y.law(), 1);
        due("call 512", y.count(3), 0);
        for (int call = 513; call <= 2000; call++) y.person(call % 90, 100);
    }

    /** A name's worth was last mended 12 calls before. */
    private static int worthAheadOf(int call) {
        return call <= 12 ? 1 : (call - 12) % 10;
    }

    private static void years() {
        says("YEARS 0 ..");
        NameRests x = with(0, 100, 0, 100);
        x.name(0, 0);
        for (int year : Sentence.around(0, 99)) {
            boolean isYear = Sentence.within(year, 0, 99);
            due("knows(1, " + year + ")", x.knows(1, year), isYear ? 2 : BAD);
            due("held(0, " + year + ", 0)", x.held(0, year, 0), isYear ? 1 : BAD);
            due("held(0, " + year + ", 1)", x.held(0, year, 1), isYear ? 1 : BAD);
            due("held(0, " + year + ", 2)", x.held(0, year, 2), isYear ? NOT : BAD);
            due("held(1, " + year + ", 2)", x.held(1, year, 2), isYear ? year : BAD);
            due("free(" + year + ")", x.free(year), isYear ? 4094 : BAD);
            due("apart(0, " + year + ")", x.apart(0, year), isYear ? NOT : BAD);
            due("apart(1, " + year + ")", x.apart(1, year), isYear ? 0 : BAD);
            due("freed(0, " + year + ")", x.freed(0, year), isYear ? 1 : BAD);
        }
        int meetings = 0;
        for (int year : Sentence.around(0, 99)) {
            due("meet(1, " + year + ")", x.meet(1, year), Sentence.within(year, 0, 99) ? meetings++ : BAD);
        }
    }

    private static void peopleAreNumbered() {
        says("PEOPLE 0 .. 11, as they come");
        NameRests x = new NameRests();
        for (int p = 0; p < 12; p++) {
            due("count(0)", x.count(0), p);
            due("person " + p, x.person(50 - p, 60), p);
        }
        for (int again = 0; again < 3; again++) due("a 13th person", x.person(0, 100), FULL);
        due("count(0)", x.count(0), 12);
        for (int p = 0; p < 12; p++) due("of(" + p + ", 0)", x.of(p, 0), 50 - p);
        due("of(12, 0)", x.of(12, 0), VOID);
    }

    private static void numbersOfPeople() {
        says("BAD (-1): no such number, or it is not as said");
        for (int people : new int[] {0, 1, 2, 11, 12}) {
            for (int p : Sentence.around(0, people - 1)) {
                numberOfOne(people, p, Sentence.within(p, 0, people - 1));
            }
        }
    }

    private static void numberOfOne(int people, int p, boolean is) {
        NameRests x = Sentence.crowd(people);
        String of = "of " + people + ", " + p;
        due("knows, " + of, x.knows(p, 50), is ? 1 << p : BAD);
        due("run, " + of, x.run(0, p), is ? p : BAD);
        due("run, " + of, x.run(2, p), is ? p : BAD);
        due("freed, " + of, x.freed(p, 50), is ? 0 : BAD);
        due("never, " + of, x.never(p), is ? 0 : BAD);
        due("mend, " + of, x.mend(p, 0, 99), is ? 100 : BAD);
        due("of 0, " + of, x.of(p, 0), is ? 0 : VOID);
        due("of 1, " + of, x.of(p, 1), is ? 99 : VOID);
        due("of 2, " + of, x.of(p, 2), is ? -1 : VOID);
        due("of 3, " + of, x.of(p, 3), is ? p : VOID);
        due("give, " + of, x.give(p, 0), is ? 0 : BAD);
        due("name, " + of, x.name(p, 11), is ? 0 : VOID);
        due("freed, " + of, x.freed(p, 50), is ? 2048 : BAD);
        due("count(2)", x.count(2), is ? 1 : 0);
        due("count(4)", x.count(4), is ? 1 : 0);
    }

    private static void born() {
        says("BORN (0 .. 99)");
        for (int born : Sentence.around(0, 99)) {
            NameRests x = new NameRests();
            boolean may = Sentence.within(born, 0, 99);
            due("person(" + born + ", 100)", x.person(born, 100), may ? 0 : BAD);
            due("count(0)", x.count(0), may ? 1 : 0);
            due("of(0, 0)", x.of(0, 0), may ? born : VOID);
        }
        due("person(-1, 0)", new NameRests().person(-1, 0), BAD);
        due("person(100, 101)", new NameRests().person(100, 101), BAD);
        due("person(" + LOW + ", " + HIGH + ")", new NameRests().person(LOW, HIGH), BAD);
        due("person(" + HIGH + ", " + LOW + ")", new NameRests().person(HIGH, LOW), BAD);
    }

    private static void dies() {
        says("DIES (above BORN, 100 at most)");
        for (int born : new int[] {0, 1, 50, 98, 99}) {
            for (int dies : Sentence.around(born + 1, 100)) {
                NameRests x = new NameRests();
                boolean may = Sentence.within(dies, born + 1, 100);
                due("person(" + born + ", " + dies + ")", x.person(born, dies), may ? 0 : BAD);
                due("of(0, 1)", x.of(0, 1), may ? dies : VOID);
                NameRests y = with(born, 100);
                due("mend(0, 0, " + dies + ")", y.mend(0, 0, dies), may ? 100 : BAD);
                due("of(0, 1)", y.of(0, 1), may ? dies : 100);
                due("count(4)", y.count(4), may && dies != 100 ? 1 : 0);
            }
        }
    }

    private static void lives() {
        says("one LIVES in YEARS BORN to DIES less 1");
        int[][] lives = {{0, 1}, {0, 100}, {99, 100}, {40, 41}, {40, 60}, {1, 99}};
        for (int[] life : lives) {
            NameRests x = with(life[0], life[1], 0, 100);
            x.name(0, 5);
            for (int year : new int[] {life[0] - 1, life[0], life[1] - 1, life[1]}) {
                boolean living = Sentence.within(year, life[0], life[1] - 1);
                int dead = Sentence.within(year, 0, 99) ? 0 : BAD;
                String when = life[0] + " to " + life[1] + ", in " + year;
                due("held, " + when, x.held(5, year, 1), living ? 1 : dead);
                due("freed, " + when, x.freed(0, year), living ? 32 : dead);
                due("meet, " + when, with(life[0], life[1], 0, 100).meet(1, year), living ? 0 : BAD);
            }
        }
    }

    private static void names() {
        says("A NAME (0 .. 11), or none (-1, at first)");
        NameRests first = Sentence.crowd(12);
        for (int p = 0; p < 12; p++) due("of(" + p + ", 2)", first.of(p, 2), -1);
        for (int v : Sentence.around(-1, 11)) {
            NameRests x = Sentence.crowd(2);
            boolean may = Sentence.within(v, -1, 11);
            x.name(1, 4);
            due("name(1, " + v + ")", x.name(1, v), may ? 4 : VOID);
            due("of(1, 2)", x.of(1, 2), may ? v : 4);
            due("count(2)", x.count(2), v == -1 ? 0 : 1);
        }
        first.name(0, 11);
        first.name(11, 11);
        due("the first and the last bear it", first.of(11, 12), 2049);
        for (int v : Sentence.around(0, 11)) {
            NameRests x = Sentence.crowd(1);
            boolean is = Sentence.within(v, 0, 11);
            due("fame(" + v + ", 1)", x.fame(v, 1), is ? 0 : BAD);
            due("mend(" + v + ", 1, 7)", x.mend(v, 1, 7), is ? 1 : BAD);
            due("of(" + v + ", 10)", x.of(v, 10), is ? 7 : VOID);
            due("of(" + v + ", 11)", x.of(v, 11), is ? 1 : VOID);
            due("of(" + v + ", 12)", x.of(v, 12), is ? 0 : VOID);
            due("apart(" + v + ", 50)", x.apart(v, 50), is ? 0 : BAD);
            for (int what = 0; what < 3; what++) {
                due("held(" + v + ", 50, " + what + ")", x.held(v, 50, what), is ? what == 2 ? 50 : 0 : BAD);
            }
        }
    }

    private static void order() {
        says("THE ORDER of PEOPLE: by BORN, then by numbers.");
        NameRests x = with(99, 100, 50, 60, 0, 1, 50, 51, 0, 100, 49, 60, 51, 60, 50, 100, 99, 100, 0, 50, 98, 99, 1, 2);
        int[] places = {10, 5, 0, 6, 1, 4, 8, 7, 11, 2, 9, 3};
        for (int p = 0; p < 12; p++) due("of(" + p + ", 3)", x.of(p, 3), places[p]);
        x.mend(0, 0, 100);
        x.mend(2, 0, 100);
        due("DIES is no matter", x.of(2, 3), 0);
        NameRests like = Sentence.crowd(12);
        for (int p = 0; p < 12; p++) due("all of one year: " + p, like.of(p, 3), p);
    }

    private static void worthAndFame() {
        says("NAMES: WORTH (0 .. 9; 1 at first)");
        for (int v : Sentence.around(0, 9)) {
            NameRests x = new NameRests();
            boolean may = Sentence.within(v, 0, 9);
            due("mend(11, 1, " + v + ")", x.mend(11, 1, v), may ? 1 : BAD);
            due("of(11, 10)", x.of(11, 10), may ? v : 1);
            due("the other one", x.of(10, 10), 1);
        }
        says("FAME (0, 1; 0 at first)");
        for (int v : Sentence.around(0, 1)) {
            NameRests x = new NameRests();
            boolean may = Sentence.within(v, 0, 1);
            due("fame(11, " + v + ")", x.fame(11, v), may ? 0 : BAD);
            due("of(11, 11)", x.of(11, 11), v == 1 ? 1 : 0);
            x.fame(11, 1);
            due("fame(11, " + v + ")", x.fame(11, v), may ? 1 : BAD);
            due("of(11, 11)", x.of(11, 11), v == 0 ? 0 : 1);
        }
    }

    private static void meetingsAreNumbered() {
        says("MEETINGS 0 .. 15, as they come");
        NameRests x = Sentence.crowd(12);
        due("of(0, 20)", x.of(0, 20), VOID);
        for (int m = 0; m < 16; m++) {
            due("count(1)", x.count(1), m);
            due("meeting " + m, x.meet(100 * (m % 12) + (m + 1) % 12, 99 - m), m);
            due("of(" + m + ", 22)", x.of(m, 22), 1);
            due("of(" + (m + 1) + ", 22)", x.of(m + 1, 22), VOID);
        }
        for (int again = 0; again < 3; again++) due("a 17th", x.meet(1, 50), FULL);
        due("count(1)", x.count(1), 16);
        for (int m = 0; m < 16; m++) {
            due("of(" + m + ", 20)", x.of(m, 20), 100 * (m % 12) + (m + 1) % 12);
            due("of(" + m + ", 21)", x.of(m, 21), 99 - m);
        }
        for (int m : new int[] {-1, 16, LOW, HIGH}) {
            for (int what = 20; what <= 22; what++) due("of(" + m + ", " + what + ")", x.of(m, what), VOID);
        }
        due("the 16th tells, too", x.knows(4, 84), 1 << 4 | 1 << 3);
    }

    private static void meetingsOfTwo() {
        says("of two PEOPLE (unlike) in a YEAR (told only if both LIVE in it");
        NameRests x = Sentence.crowd(12);
        for (int p = 0; p < 12; p++) due("one and the same: " + p, x.meet(101 * p, 50), BAD);
        int[] nobody = {-1, -100, -101, LOW, HIGH, 12, 99, 112, 1112, 1111, 1199, 1200, 1201, 1211, 1300, 9900, 10000, 10001};
        for (int ab : nobody) due("meet(" + ab + ", 50)", x.meet(ab, 50), BAD);
        due("none came", x.count(1), 0);
        due("meet(11, 50)", x.meet(11, 50), 0);
        due("meet(1100, 50)", x.meet(1100, 50), 1);
        due("meet(1110, 50)", x.meet(1110, 50), 2);
        due("meet(1011, 50)", x.meet(1011, 50), 3);
        due("of(0, 20)", x.of(0, 20), 11);
        due("of(1, 20)", x.of(1, 20), 1100);
        NameRests y = with(10, 30, 20, 40);
        int[] years = {9, 10, 19, 20, 21, 28, 29, 30, 39, 40};
        int meetings = 0;
        for (int year : years) {
            boolean both = year >= 20 && year < 30;
            due("meet(1, " + year + ")", y.meet(1, year), both ? meetings++ : BAD);
            due("meet(100, " + year + ")", y.meet(100, year), both ? meetings++ : BAD);
        }
        due("never at once", with(10, 20, 20, 30).meet(1, 20), BAD);
        due("never at once", with(10, 20, 20, 30).meet(1, 19), BAD);
        due("at once for one year", with(10, 20, 19, 30).meet(1, 19), 0);
    }

    private static void meetingsCountByDiesNow() {
        says("it counts as long as they do, by DIES now");
        NameRests x = with(10, 60, 20, 60);
        x.meet(1, 40);
        int[] dies = {39, 40, 41, 42};
        for (int p = 0; p < 2; p++) {
            for (int d : dies) {
                x.mend(p, 0, d);
                due("DIES " + d, x.of(0, 22), d > 40 ? 1 : 0);
                due("DIES " + d, x.knows(1 - p, 99), d > 40 ? 3 : 1 << (1 - p));
                due("it stays told", x.of(0, 21), 40);
            }
            x.mend(p, 0, 60);
        }
        x.mend(0, 0, 40);
        x.undo();
        due("undone", x.of(0, 22), 1);
        x.redo();
        due("done again", x.of(0, 22), 0);
        due("it holds its place", x.meet(1, 39), 1);
    }

    // ---- who knows, which are held

    private static void hearing() {
        says("HEARING (0, 1; 0 at first)");
        for (int v : Sentence.around(0, 1)) {
            NameRests x = new NameRests();
            boolean may = Sentence.within(v, 0, 1);
            due("hearing(" + v + ")", x.hearing(v), may ? 0 : BAD);
            due("it was", x.hearing(1), v == 1 ? 1 : 0);
            due("hearing(" + v + ")", x.hearing(v), may ? 1 : BAD);
            due("it was", x.hearing(0), v == 0 ? 0 : 1);
        }
    }

    private static void knowsOneself() {
        says("KNOWS in a YEAR: PEOPLE (bits): oneself");
        NameRests x = new NameRests();
        for (int p = 0; p < 12; p++) x.person(50, 60);
        for (int p = 0; p < 12; p++) {
            for (int year : new int[] {0, 49, 50, 59, 60, 99}) due(p + " in " + year, x.knows(p, year), 1 << p);
        }
    }

    private static void knowsUpToTheYear() {
        says("then MEETING by MEETING that counts, of YEARS up to that one");
        NameRests x = with(0, 100, 0, 100);
        x.meet(1, 0);
        due("in year 0", x.knows(0, 0), 3);
        NameRests y = with(0, 100, 0, 100, 0, 100);
        y.meet(1, 99);
        y.meet(2, 50);
        due("in 49", y.knows(0, 49), 1);
        due("in 50", y.knows(0, 50), 5);
        due("in 51", y.knows(0, 51), 5);
        due("in 98", y.knows(0, 98), 5);
        due("in 99", y.knows(0, 99), 7);
        due("the other one", y.knows(1, 99), 3);
    }

    private static void knowsByNumbers() {
        says("by YEARS, then by numbers: each of both knows the other");
        NameRests x = Sentence.crowd(4);
        x.hearing(1);
        x.meet(1, 50);
        x.meet(102, 50);
        x.meet(203, 49);
        due("1 hears of 3 by 2, who met it a year ahead", x.knows(1, 50), 15);
        due("2 hears of 0 by 1, whom it met behind that", x.knows(2, 50), 15);
        due("0 met 1 too early", x.knows(0, 50), 3);
        due("3 met 2 too early", x.knows(3, 50), 12);
    }

    private static void knowsBothAtOnce() {
        says("if HEARING is 1, each also all whom the other knew just ahead of it (both at once)");
        NameRests x = Sentence.crowd(12);
        for (int p = 0; p < 11; p++) x.meet(100 * p + p + 1, p);
        due("the last without hearing", x.knows(11, 99), 3072);
        x.hearing(1);
        due("the last of a chain", x.knows(11, 10), 4095);
        due("the one ahead of it", x.knows(10, 10), 4095);
        due("the one ahead of it, a year ahead", x.knows(10, 9), 2047);
        due("the first", x.knows(0, 99), 3);
        x.hearing(0);
        due("without hearing again", x.knows(11, 99), 3072);
        NameRests y = Sentence.crowd(3);
        y.hearing(1);
        y.meet(1, 5);
        y.meet(102, 6);
        due("what the other knew ahead of it", y.knows(2, 6), 7);
        due("1 knows 2, not by itself alone", y.knows(1, 6), 7);
        due("0 does not hear what came behind", y.knows(0, 6), 3);
    }

    private static void holdersLive() {
        says("HOLDERS of a NAME in a YEAR: those who LIVE in it, KNOW some bearer that is BORN by then");
        NameRests x = with(10, 20, 15, 40, 18, 30, 0, 100);
        x.name(0, 0);
        x.meet(1, 19);
        x.meet(2, 18);
        int[][] holders = {{9, 0}, {10, 1}, {17, 1}, {18, 5}, {19, 7}, {20, 6}, {29, 6}, {30, 2}, {39, 2}, {40, 0}};
        for (int[] h : holders) {
            due("held(0, " + h[0] + ", 1)", x.held(0, h[0], 1), h[1]);
            due("held(0, " + h[0] + ", 0)", x.held(0, h[0], 0), h[1] == 0 ? 0 : 1);
            due("free(" + h[0] + ")", x.free(h[0]), h[1] == 0 ? 4095 : 4094);
        }
        NameRests two = Sentence.crowd(12);
        two.name(0, 0);
        two.name(11, 0);
        two.meet(1, 5);
        two.meet(1110, 5);
        two.meet(1, 6);
        due("some bearer: of either", two.held(0, 5, 1), 1 << 11 | 1 << 10 | 3);
    }

    private static void heldByFame() {
        says("HELD: it has HOLDERS, or FAME and such a bearer. FREE: not HELD.");
        NameRests x = with(50, 51);
        x.name(0, 3);
        x.fame(3, 1);
        x.fame(4, 1);
        due("ahead of its bearer", x.held(3, 49, 0), 0);
        due("free till it is born", x.held(3, 0, 2), 0);
        due("in that year", x.held(3, 50, 0), 1);
        due("its holder", x.held(3, 50, 1), 1);
        due("when nobody lives", x.held(3, 51, 0), 1);
        due("without holders", x.held(3, 51, 1), 0);
        due("in the last year", x.held(3, 99, 0), 1);
        due("till", x.held(3, 50, 2), NOT);
        due("fame without a bearer", x.held(4, 99, 0), 0);
        due("free in 49", x.free(49), 4095);
        due("free in 99", x.free(99), 4095 - 8);
        x.fame(3, 0);
        due("without fame", x.held(3, 51, 0), 0);
        due("till", x.held(3, 50, 2), 51);
    }

    private static void bornByThen() {
        says("BORN by then (in that YEAR or ahead of it)");
        for (int born : new int[] {0, 1, 50, 99}) {
            NameRests x = with(born, 100, 0, 100);
            x.name(0, 7);
            x.fame(7, 1);
            if (born > 0) due("born in " + born + ", the year ahead", x.held(7, born - 1, 0), 0);
            due("born in " + born, x.held(7, born, 0), 1);
            if (born < 99) due("born in " + born + ", the year behind", x.held(7, born + 1, 0), 1);
        }
    }

    private static void namedByThoseAhead() {
        says("(As PEOPLE are named: by who is ahead in THE ORDER alone: others are no bearers.)");
        NameRests x = with(20, 100, 20, 100, 20, 100, 19, 100, 21, 100);
        x.name(0, 0);
        x.name(2, 1);
        x.name(3, 2);
        x.name(4, 3);
        due("0 and 3 are ahead, 2 and 4 are not", x.give(1, 0), 1);
        x.name(1, -1);
        x.name(0, -1);
        due("3 is ahead", x.give(1, 0), 0);
        NameRests famed = with(20, 30, 20, 30);
        famed.fame(0, 1);
        famed.name(1, 0);
        due("fame of one behind is no matter", famed.give(0, 0), 0);
        famed.name(0, -1);
        famed.name(1, -1);
        famed.name(0, 0);
        due("fame of one ahead", famed.give(1, 0), 1);
        NameRests dead = with(0, 1, 50, 60);
        dead.name(0, 0);
        due("one who died", dead.give(1, 0), 0);
        dead.name(1, -1);
        dead.fame(0, 1);
        due("fame of one who died", dead.give(1, 0), 1);
    }

    private static void till() {
        says("TILL: the first YEAR from a told one on in which a NAME is FREE; NOT: none.");
        NameRests x = with(10, 20, 30, 99, 50, 100);
        x.name(0, 0);
        x.name(1, 0);
        x.name(2, 1);
        int[][] tills = {{0, 0}, {9, 9}, {10, 20}, {19, 20}, {20, 20}, {29, 29}, {30, 99}, {98, 99}, {99, 99}};
        for (int[] t : tills) due("held(0, " + t[0] + ", 2)", x.held(0, t[0], 2), t[1]);
        due("free up to it", x.held(1, 49, 2), 49);
        due("to the last year", x.held(1, 50, 2), NOT);
        due("in the last year", x.held(1, 99, 2), NOT);
        says("HELD till: from that YEAR on.");
        due("held(0, 20, 2)", x.held(0, 20, 2), 20);
    }

    private static void most() {
        says("MOST: how many NAMES are HELD at once at most; the first such YEAR.");
        due("nobody", new NameRests().most(0), 0);
        due("nobody", new NameRests().most(1), 0);
        NameRests x = Sentence.crowd(12);
        for (int p = 0; p < 12; p++) x.name(p, p);
        due("all twelve", x.most(0), 12);
        due("from 0 on", x.most(1), 0);
        for (int p = 0; p < 12; p++) x.name(p, 11);
        due("one for all", x.most(0), 1);
        NameRests last = with(0, 100, 99, 100);
        last.name(1, 4);
        due("in the last year alone", last.most(1), 99);
        last.name(0, 4);
        due("the same name", last.most(0), 1);
        due("the same name", last.most(1), 0);
        NameRests twice = with(10, 12, 11, 12, 40, 42, 41, 42);
        for (int p = 0; p < 4; p++) twice.name(p, p);
        due("twice two", twice.most(0), 2);
        due("the first time", twice.most(1), 11);
        due("most(2)", x.most(2), BAD);
        due("most(-1)", x.most(-1), BAD);
    }

    private static void judged() {
        says("JUDGED: in THE ORDER the first of those who have a NAME whose NAME was HELD in the YEAR in which it is BORN, "
            + "by those ahead; NOT.");
        due("nobody", new NameRests().judge(), NOT);
        due("no names", Sentence.crowd(12).judge(), NOT);
        int[][] dies = {{39, NOT}, {40, NOT}, {41, 0}};
        for (int[] d : dies) {
            NameRests x = with(40, 60, 10, d[0]);
            x.name(0, 0);
            x.name(1, 0);
            due("the elder dies in " + d[0], x.judge(), d[1]);
        }
        NameRests last = Sentence.crowd(12);
        for (int p = 0; p < 12; p++) last.name(p, p);
        due("twelve unlike", last.judge(), NOT);
        last.name(11, 10);
        due("the last is like the one ahead", last.judge(), 11);
        last.name(5, 2);
        due("the first in the order", last.judge(), 5);
    }

    private static void judgedOfTheSameYear() {
        says("JUDGED: those ahead of the same YEAR, too.");
        NameRests x = with(10, 11, 10, 11);
        x.name(0, 3);
        x.name(1, 3);
        due("twins", x.judge(), 1);
        x.name(0, -1);
        due("one behind is no matter", x.judge(), NOT);
        due("the year ahead", sameName(9).judge(), 0);
        due("the same year", sameName(10).judge(), 1);
        due("the year behind", sameName(11).judge(), 1);
    }

    /** Person 0 is born in 10, person 1 in that year, both bear name 0 and live long. */
    private static NameRests sameName(int year) {
        NameRests x = with(10, 90, year, 90);
        x.name(0, 0);
        x.name(1, 0);
        return x;
    }

    // ---- giving

    private static void givenLeast() {
        says("0 the least number");
        NameRests x = with(10, 20, 10, 20, 10, 20, 20, 30);
        x.name(0, 0);
        x.name(1, 1);
        due("0 and 1 are held", x.give(2, 0), 2);
        due("0 to 2 are free when they die", x.give(3, 0), 0);
        x.name(3, -1);
        x.mend(0, 0, 21);
        due("0 is held in that very year", x.give(3, 0), 1);
    }

    private static void givenLatest() {
        says("1 that which was HELD (by those ahead) in the latest YEAR ahead of that one");
        NameRests x = with(0, 10, 0, 11, 0, 11, 20, 30, 11, 12);
        x.name(0, 2);
        x.name(1, 9);
        x.name(2, 5);
        due("of like ones the least number", x.give(3, 1), 5);
        x.name(3, -1);
        x.mend(1, 0, 20);
        due("held till the year ahead", x.give(3, 1), 9);
        x.name(3, -1);
        x.mend(1, 0, 21);
        due("held in that year", x.give(3, 1), 5);
        x.name(3, -1);
        x.name(4, 7);
        due("held in one year alone", x.give(3, 1), 7);
        NameRests zero = with(0, 1, 1, 2);
        zero.name(0, 11);
        due("held in year 0, given in year 1", zero.give(1, 1), 11);
        NameRests none = with(0, 1, 0, 1);
        none.name(0, 0);
        due("no year ahead of 0", none.give(1, 1), 1);
    }

    private static void givenNeverHeldLast() {
        says("WAY 1: a NAME that was never HELD is given last.");
        NameRests x = with(0, 1, 98, 99, 99, 100, 99, 100);
        x.name(0, 11);
        x.name(1, 10);
        due("held in 98", x.give(2, 1), 10);
        due("held in 0", x.give(3, 1), 11);
        x.name(3, -1);
        x.mend(0, 0, 100);
        due("all that were held are: the least number", x.give(3, 1), 0);
        due("nobody ahead", Sentence.crowd(1).give(0, 1), 0);
    }

    private static void givenMostWorth() {
        says("2 that of most WORTH (of like ones the least number)");
        NameRests x = Sentence.crowd(12);
        due("all alike", x.give(0, 2), 0);
        x.mend(11, 1, 9);
        due("the last", x.give(1, 2), 11);
        x.mend(10, 1, 9);
        x.mend(4, 1, 9);
        due("of like ones", x.give(2, 2), 4);
        due("the next", x.give(3, 2), 10);
        for (int v = 0; v < 12; v++) x.mend(v, 1, 0);
        due("all 0", x.give(4, 2), 1);
    }

    private static void givenTheLastName() {
        says("NOT: none is FREE.");
        for (int way = 0; way < 3; way++) {
            NameRests x = Sentence.crowd(12);
            for (int p = 0; p < 11; p++) x.name(p, (p + 3) % 12);
            due("eleven are held, one is free: way " + way, x.give(11, way), 2);
            x.name(11, -1);
            x.name(0, 4);
            due("two are free: way " + way, x.give(11, way), 2);
            x.name(11, -1);
            x.name(0, 2);
            due("the other one is free: way " + way, x.give(11, way), 3);
        }
    }

    private static void runAsThoughNoneHadNames() {
        says("RUN: all PEOPLE as though none had a NAME; NAMES and WORTHS are those that are given in it.");
        NameRests x = Sentence.crowd(3);
        for (int p = 0; p < 3; p++) x.name(p, 11);
        x.mend(11, 1, 8);
        x.mend(1, 1, 5);
        for (int p = 0; p < 3; p++) due("run(0, " + p + ")", x.run(0, p), p);
        due("used(0, 0)", x.used(0, 0), 3);
        due("used(0, 1)", x.used(0, 1), 7);
        due("used(2, 1)", x.used(2, 1), 14);
        due("used(0, 2)", x.used(0, 2), 0);
        for (int p = 0; p < 3; p++) due("in thought", x.of(p, 2), 11);
    }

    private static void runGivesAll() {
        says("(NOT: stays without): the NAME of each; how many NAMES come; the sum of WORTHS (of each as often as it comes); "
            + "how many PEOPLE are without.");
        NameRests x = Sentence.crowd(12);
        for (int v = 0; v < 12; v++) x.fame(v, 1);
        for (int way = 0; way < 3; way++) {
            for (int p = 0; p < 12; p++) due("run(" + way + ", " + p + ")", x.run(way, p), p);
            due("used(" + way + ", 0)", x.used(way, 0), 12);
            due("used(" + way + ", 1)", x.used(way, 1), 12);
            due("used(" + way + ", 2)", x.used(way, 2), 0);
        }
        NameRests heirs = with(0, 1, 1, 2, 2, 3);
        heirs.mend(0, 1, 9);
        due("one name for all", heirs.used(0, 0), 1);
        due("as often as it comes", heirs.used(0, 1), 27);
        heirs.mend(0, 1, 0);
        due("worth 0", heirs.used(0, 1), 0);
        for (int way = 0; way < 3; way++) {
            for (int what = 0; what < 3; what++) due("nobody", new NameRests().used(way, what), 0);
        }
    }

    private static void apartFewest() {
        says("APART: of all sets of MEETINGS that count those without which a NAME is FREE in a YEAR: that with fewest "
            + "(of like ones the least bits); NOT.");
        NameRests x = with(0, 50, 0, 100);
        x.name(0, 0);
        for (int m = 0; m < 15; m++) x.meet(1, 20);
        due("15 meetings", x.apart(0, 60), 32767);
        x.meet(1, 20);
        due("16 meetings", x.apart(0, 60), 65535);
        due("in the year in which the bearer dies", x.apart(0, 50), 65535);
        x.mend(1, 0, 20);
        due("none counts, none is wanted", x.apart(0, 60), 0);
        NameRests last = with(0, 50, 0, 100, 0, 50);
        last.name(0, 0);
        for (int m = 0; m < 15; m++) last.meet(2, 20);
        last.meet(1, 20);
        due("the 16th alone", last.apart(0, 60), 32768);
        NameRests chain = with(0, 20, 0, 30, 0, 100);
        chain.name(0, 0);
        chain.hearing(1);
        chain.meet(102, 15);
        chain.meet(1, 14);
        due("of two like ones the least bits", chain.apart(0, 50), 1);
        chain.mend(1, 0, 16);
        due("it still counts", chain.apart(0, 50), 1);
        chain.mend(1, 0, 15);
        due("it does not", chain.apart(0, 50), 0);
    }

    private static void apartFewestOfUnlike() {
        says("that with fewest (of like ones the least bits)");
        NameRests x = with(0, 20, 0, 30, 0, 30, 0, 100);
        x.name(0, 0);
        x.hearing(1);
        x.meet(1, 10);
        x.meet(1, 11);
        x.meet(103, 12);
        due("fewer of higher bits", x.apart(0, 50), 4);
        x.meet(103, 13);
        due("two of either, the least bits", x.apart(0, 50), 3);
        x.meet(1, 12);
        due("of the year 12, but behind the one who hears: two are fewer", x.apart(0, 50), 12);
        NameRests last = Sentence.crowd(12);
        last.mend(11, 0, 20);
        last.name(11, 11);
        for (int p = 0; p < 11; p++) last.meet(1100 + p, p);
        due("all eleven met the twelfth", last.apart(11, 30), 2047);
    }

    private static void apartNot() {
        says("APART: of all sets of MEETINGS that count those without which a NAME is FREE in a YEAR");
        NameRests x = with(0, 50, 0, 100);
        x.name(0, 0);
        x.meet(1, 49);
        due("the bearer lives", x.apart(0, 49), NOT);
        due("the bearer died", x.apart(0, 50), 1);
        due("the other is 79", x.apart(0, 79), 1);
        due("the other is 80", x.apart(0, 80), 0);
        x.fame(0, 1);
        due("fame", x.apart(0, 80), NOT);
        due("fame", x.apart(0, 50), NOT);
    }

    private static void apartNoneIfFree() {
        says("APART: none, if it is FREE already.");
        due("nobody", new NameRests().apart(0, 0), 0);
        due("nobody", new NameRests().apart(11, 99), 0);
        NameRests x = with(10, 20, 10, 30);
        x.name(0, 5);
        x.meet(1, 15);
        due("ahead of its bearer", x.apart(5, 9), 0);
        due("behind all who knew", x.apart(5, 30), 0);
        due("not free yet", x.apart(5, 29), 1);
        x.fame(5, 1);
        due("fame ahead of its bearer", x.apart(5, 9), 0);
    }

    private static void freed() {
        says("FREED: NAMES (bits) that are HELD in a YEAR, and were not, if one did not LIVE in it.");
        NameRests x = with(10, 20, 10, 30);
        x.name(0, 0);
        x.name(1, 11);
        x.meet(1, 12);
        due("not born yet", x.freed(0, 9), 0);
        due("its own name", x.freed(0, 10), 1);
        due("the year ahead of the meeting", x.freed(0, 11), 1);
        due("both hold both", x.freed(0, 12), 0);
        due("the last year of one", x.freed(1, 19), 0);
        due("the other alone is left", x.freed(1, 20), 2049);
        due("the last year", x.freed(1, 29), 2049);
        due("dead", x.freed(1, 30), 0);
        says("FREED: just that one's holding goes.");
        NameRests heard = with(0, 40, 0, 100, 0, 100);
        heard.hearing(1);
        heard.name(0, 0);
        heard.meet(1, 10);
        heard.meet(102, 50);
        due("a year ahead of the hearing", heard.freed(1, 49), 1);
        due("who heard by it holds on", heard.freed(1, 50), 0);
        NameRests all = Sentence.crowd(1);
        due("it holds nothing", all.freed(0, 50), 0);
    }

    private static void never() {
        says("NEVER: PEOPLE (bits) who cannot have known one by its NAME: who LIVE in the YEAR in which another one with the "
            + "same NAME, behind it in THE ORDER, is BORN (but for that one itself and for the first one).");
        NameRests x = with(0, 100, 50, 60, 0, 50, 0, 51, 50, 51, 51, 60);
        x.name(0, 2);
        x.name(1, 2);
        due("who lives in 50, but for both", x.never(0), 8 + 16);
        due("nobody behind it", x.never(1), 0);
        says("NEVER: by those with the same NAME behind it in THE ORDER.");
        NameRests twins = with(10, 20, 10, 20, 10, 11);
        for (int p = 0; p < 3; p++) twins.name(p, 0);
        due("of one year, by numbers", twins.never(0), 6);
        due("of one year, by numbers", twins.never(1), 1);
        due("the last", twins.never(2), 0);
        due("without a name", Sentence.crowd(12).never(11), 0);
        NameRests gone = with(0, 10, 0, 30, 0, 30, 10, 30);
        gone.name(1, 0);
        gone.name(3, 0);
        due("0 is dead, 2 lives", gone.never(1), 4);
        NameRests all = Sentence.crowd(12);
        for (int p = 0; p < 12; p++) all.name(p, 3);
        due("all others", all.never(0), 4094);
        due("the one ahead of the last", all.never(10), 1023);
    }

    private static void needsTimes() {
        says("NEEDS: n times (1 .. 20) by a SEED, in thought");
        for (int n : Sentence.around(1, 20)) {
            NameRests x = with(99, 100, 99, 100, 99, 100);
            for (int what = 0; what < 2; what++) {
                due("needs(5, " + n + ", " + what + ")", x.needs(5, n, what), Sentence.within(n, 1, 20) ? 3 : BAD);
            }
        }
        says("NEEDS without PEOPLE: 0.");
        for (int n : Sentence.around(1, 20)) {
            for (int what = 0; what < 2; what++) {
                due("needs(5, " + n + ", " + what + ")", new NameRests().needs(5, n, what), Sentence.within(n, 1, 20) ? 0 : BAD);
            }
        }
    }

    private static void needsWrap() {
        says("PERSON by PERSON z = z * 1103515245 + 12345 (an int; SEED at first, on from time to time)");
        int[] seeds = {0, 1, -1, 2, LOW, LOW + 1, HIGH, HIGH - 1, 1103515245, -1103515245, 12345, -12345};
        for (int seed : seeds) {
            long z = seed;
            int sum = 0, most = 0;
            for (int n = 1; n <= 20; n++) {
                z = (int) (z * 1103515245L + 12345L);
                long firstDies = 1 + (z & 0xffffffffL) / 256 % 100;
                z = (int) (z * 1103515245L + 12345L);
                int names = firstDies > 50 ? 2 : 1;
                sum += names;
                most = Math.max(most, names);
                NameRests x = with(0, 100, 50, 100);
                due("needs(" + seed + ", " + n + ", 0)", x.needs(seed, n, 0), sum / n);
                due("needs(" + seed + ", " + n + ", 1)", x.needs(seed, n, 1), most);
            }
        }
    }

    private static void needsMeanIsCut() {
        says("the mean (cut), the most");
        NameRests x = with(0, 100, 50, 60);
        due("1 name", x.needs(0, 1, 0), 1);
        due("1 and 2 names: the mean", x.needs(0, 2, 0), 1);
        due("1 and 2 names: the most", x.needs(0, 2, 1), 2);
        due("2 names each time: the mean", x.needs(1, 3, 0), 2);
        due("1 name each time: the most", x.needs(-3, 3, 1), 1);
    }

    /** The other one is born about the year in which the first one dies, by what it draws first. */
    private static void needsDrawnDies() {
        says("DIES is BORN and 1 and (z >>> 8) % (100 - BORN)");
        for (int born = 0; born < 99; born++) {
            for (int seed : new int[] {3, -77, 4096}) {
                int z = seed * 1103515245 + 12345;
                int dies = born + 1 + (z >>> 8) % (100 - born);
                for (int next = Math.max(born + 1, dies - 1); next <= Math.min(99, dies + 1); next++) {
                    NameRests x = with(born, 100, next, 100);
                    due("born in " + born + " and " + next, x.needs(seed, 1, 1), next < dies ? 2 : 1);
                    due("DIES stays", x.of(0, 1), 100);
                }
            }
        }
        due("born in 99 dies in 100", with(99, 100, 99, 100).needs(8, 20, 0), 2);
    }

    // ---- changes, an image

    private static void changesKept() {
        says("40 at most are kept.");
        for (int changes : new int[] {0, 1, 39, 40, 41, 42, 80, 81}) {
            NameRests x = new NameRests();
            for (int k = 1; k <= changes; k++) x.mend(0, 1, k % 2 == 0 ? 3 : 7);
            int kept = Math.min(40, changes);
            due(changes + " changes", x.count(4), kept);
            for (int left = kept - 1; left >= 0; left--) due("undo", x.undo(), left);
            due("no more", x.undo(), STATE);
            int atFirst = changes <= 40 ? 1 : changes % 2 == 0 ? 3 : 7;
            due("what stays done of " + changes, x.of(0, 10), atFirst);
            for (int left = kept - 1; left >= 0; left--) due("redo", x.redo(), left);
            due("no more", x.redo(), STATE);
            due("all are done again", x.of(0, 10), changes == 0 ? 1 : changes % 2 == 0 ? 3 : 7);
        }
        says("the 41st takes the oldest one's place");
        NameRests x = with(0, 100);
        x.mend(0, 0, 50);
        x.mend(11, 1, 9);
        for (int k = 0; k < 38; k++) x.mend(0, 1, k % 2 == 0 ? 3 : 7);
        x.mend(1, 1, 4);
        for (int k = 0; k < 40; k++) x.undo();
        due("the oldest stays done", x.of(0, 1), 50);
        due("the next one does not", x.of(11, 10), 1);
        due("nor the 41st", x.of(1, 10), 1);
    }

    private static void changesAgain() {
        says("can be UNDONE, the latest first, and DONE AGAIN (as long as no other came behind)");
        NameRests x = with(0, 100);
        for (int k = 1; k <= 40; k++) x.mend(0, 0, k);
        due("undo", x.undo(), 39);
        due("the latest first", x.of(0, 1), 39);
        due("undo", x.undo(), 38);
        due("redo", x.redo(), 1);
        due("done again", x.of(0, 1), 39);
        due("another", x.mend(0, 0, 77), 39);
        due("one came behind", x.redo(), STATE);
        due("no place was wanted", x.count(4), 40);
        for (int k = 0; k < 40; k++) x.undo();
        due("all 40 are undone", x.of(0, 1), 100);
        due("another", x.mend(0, 0, 5), 100);
        due("none is left of the 40", x.redo(), STATE);
        due("one", x.count(4), 1);
        due("undo", x.undo(), 0);
        due("redo", x.redo(), 0);
        due("done", x.of(0, 1), 5);
    }

    private static void theSameNumber() {
        says("The same number is no CHANGE");
        NameRests x = with(0, 100);
        due("DIES", x.mend(0, 0, 100), 100);
        due("WORTH", x.mend(0, 1, 1), 1);
        due("no change", x.count(4), 0);
        due("no change", x.undo(), STATE);
        x.mend(0, 1, 2);
        x.mend(0, 1, 3);
        x.undo();
        due("the same as it is now", x.mend(0, 1, 2), 2);
        due("nothing came behind", x.redo(), 0);
        due("done again", x.of(0, 10), 3);
        NameRests full = new NameRests();
        for (int k = 1; k <= 40; k++) full.mend(0, 1, k % 2 == 0 ? 3 : 7);
        full.mend(0, 1, 3);
        for (int k = 0; k < 40; k++) full.undo();
        due("the oldest was kept", full.of(0, 10), 1);
    }

    private static void image() {
        says("AN IMAGE keeps the NAMES of PEOPLE.");
        NameRests none = new NameRests();
        due("there is none", none.back(), STATE);
        due("of nobody", none.image(), 0);
        due("of nobody", none.back(), 0);
        NameRests x = Sentence.crowd(11);
        for (int p = 0; p < 11; p++) x.name(p, p);
        due("of eleven", x.image(), 11);
        x.person(0, 100);
        x.name(11, 11);
        for (int p = 0; p < 11; p++) x.name(p, -1);
        due("back", x.back(), 11);
        for (int p = 0; p < 12; p++) due("of(" + p + ", 2)", x.of(p, 2), p);
        due("of twelve", x.image(), 12);
        x.name(11, 0);
        due("back", x.back(), 12);
        due("the twelfth, too", x.of(11, 2), 11);
        x.mend(0, 0, 50);
        x.mend(0, 1, 5);
        x.fame(0, 1);
        due("back", x.back(), 12);
        due("DIES is as it is", x.of(0, 1), 50);
        due("WORTH is as it is", x.of(0, 10), 5);
        due("FAME is as it is", x.of(0, 11), 1);
        due("changes are as they are", x.count(4), 2);
    }
}
