/** Each promise of the document by its number: ordinary inputs, the edges that it names, wrong inputs. */
public final class PromisesTest {
    private static final int BAD = -1, NOT = -2, FULL = -3, STATE = -5, VOID = -2000000000;
    private static final int LOW = Integer.MIN_VALUE, HIGH = Integer.MAX_VALUE;
    private static int wrong = 0;
    private static int calls = 0;

    private PromisesTest() { }

    public static void main(String[] args) {
        newObject();
        person();
        peopleFromRows();
        meet();
        hearing();
        name();
        fame();
        mend();
        of();
        feed();
        lawFaults();
        lawValues();
        lawLetters();
        knows();
        held();
        free();
        most();
        judge();
        give();
        run();
        used();
        apart();
        freed();
        never();
        needs();
        imageAndBack();
        undoAndRedo();
        longUndo();
        body();
        actAndTrace();
        keep();
        row();
        putAndElement();
        shift();
        taken();
        count();
        System.out.println(wrong == 0 ? calls + " answers are as due" : wrong + " answers are not as due");
        if (wrong != 0) System.exit(1);
    }

    private static void due(int promise, String what, long got, long want) {
        calls++;
        if (got == want) return;
        wrong++;
        System.out.println("promise " + promise + ": " + what + " answered " + got + ", due is " + want);
    }

    /** The answer of law() to a text. */
    private static int tell(NameRests x, String text) {
        for (int i = 0; i < text.length(); i++) x.feed(text.charAt(i));
        return x.law();
    }

    private static String times(String part, int n) {
        return part.repeat(n);
    }

    /** People of (born, dies) by twos. */
    private static NameRests with(int... lives) {
        NameRests x = new NameRests();
        for (int k = 0; k + 1 < lives.length; k += 2) x.person(lives[k], lives[k + 1]);
        return x;
    }

    private static void newObject() {
        NameRests x = new NameRests();
        for (int what = 0; what <= 6; what++) due(1, "count " + what, x.count(what), 0);
        due(1, "hearing", x.hearing(0), 0);
        for (int name = 0; name < 12; name++) {
            due(1, "worth", x.of(name, 10), 1);
            due(1, "fame", x.of(name, 11), 0);
            due(1, "bearers", x.of(name, 12), 0);
        }
        due(1, "no person", x.of(0, 0), VOID);
        due(1, "no meeting", x.of(0, 20), VOID);
        for (int shelf = 0; shelf < 6; shelf++) due(1, "shelf", x.taken(shelf, 0), -11);
        due(1, "no image", x.back(), STATE);
        x.person(3, 4);
        due(1, "objects are apart", new NameRests().count(0), 0);
    }

    private static void person() {
        NameRests x = new NameRests();
        int[][] bad = {{-1, 5}, {100, 101}, {99, 101}, {5, 5}, {5, 4}, {0, 0}, {LOW, 1}, {1, HIGH}, {0, 101}, {HIGH, LOW}};
        for (int[] b : bad) due(2, "bad", x.person(b[0], b[1]), BAD);
        due(2, "first", x.person(0, 100), 0);
        due(2, "last year", x.person(99, 100), 1);
        due(2, "one year", x.person(50, 51), 2);
        due(2, "no name", x.of(2, 2), -1);
        for (int p = 3; p < 12; p++) due(2, "on", x.person(p, 60), p);
        due(2, "full", x.person(0, 1), FULL);
        due(2, "bad ahead of full", x.person(1, 1), BAD);
        due(2, "count", x.count(0), 12);
    }

    private static void peopleFromRows() {
        NameRests x = new NameRests();
        x.body(0);
        due(3, "no shelf", x.people(-1, 0, 1), BAD);
        due(3, "no shelf", x.people(6, 0, 1), BAD);
        due(3, "n 0", x.people(0, 0, 0), BAD);
        due(3, "n 13", x.people(0, 0, 13), BAD);
        due(3, "nothing", x.people(0, 0, 12), 0);
        due(3, "nothing, i below 0", x.people(0, -1, 12), 0);
        x.keep(0, 0);
        due(3, "body", x.people(0, 0, 1), -12);
        due(3, "body, i below 0", x.people(0, -1, 1), -12);
        due(3, "bad ahead of -12", x.people(0, 0, 0), BAD);
        for (int sort = 1; sort <= 4; sort++) {
            x.row(0, sort, 6);
            due(3, "sort " + sort, x.people(0, 0, 1), -12);
        }
        x.row(0, 0, 11);
        int[] row = {7, 0, 5, -1, 10, 100, 11, 99, 100, 3, 0};
        for (int k = 0; k < row.length; k++) x.put(0, k, row[k]);
        due(3, "i below 0", x.people(0, -1, 1), 0);
        due(3, "i far below 0", x.people(0, LOW, 12), 0);
        due(3, "i far above", x.people(0, HIGH, 12), 0);
        due(3, "i at the end", x.people(0, 11, 1), 0);
        due(3, "within a three", x.people(0, 9, 1), 0);
        due(3, "one", x.people(0, 1, 1), 1);
        due(3, "born", x.of(0, 0), 0);
        due(3, "dies", x.of(0, 1), 5);
        due(3, "none", x.of(0, 2), -1);
        due(3, "till the row ends", x.people(0, 1, 12), 3);
        due(3, "name", x.of(2, 2), 11);
        due(3, "name", x.of(3, 2), 3);
        x.row(2, 0, 3);
        x.put(2, 1, 1);
        due(3, "a three to the last element", x.people(2, 0, 12), 1);
        due(3, "its name", x.of(4, 2), 0);
        x.put(0, 3, 12);
        due(3, "a name that is none", x.people(0, 1, 12), 0);
        x.put(0, 3, -2);
        due(3, "a name below -1", x.people(0, 1, 12), 0);
        x.put(0, 3, 0);
        x.put(0, 5, 10);
        due(3, "those ahead came", x.people(0, 1, 12), 1);
        x.put(0, 5, 101);
        due(3, "dies too late", x.people(0, 1, 12), 1);
        endsWithinThree();
        x.row(1, 0, 60);
        for (int k = 0; k < 60; k += 3) x.put(1, k + 1, 9);
        due(3, "till full", x.people(1, 0, 12), 5);
        due(3, "full", x.people(1, 0, 12), 0);
        due(3, "count", x.count(0), 12);
        due(3, "named", x.count(2), 10);
    }

    private static void endsWithinThree() {
        NameRests x = new NameRests();
        int[] row = {0, 9, -1, 0, 9};
        x.row(0, 0, 5);
        for (int k = 0; k < row.length; k++) x.put(0, k, row[k]);
        due(3, "no name is left in the row", x.people(0, 0, 12), 1);
        due(3, "no name is left in the row", x.people(0, 3, 1), 0);
        due(3, "one came", x.count(0), 1);
        x.row(0, 0, 60);
        for (int k = 0; k < 60; k++) x.put(0, k, k % 3 == 0 ? 9 : 3);
        for (int i = 58; i <= 63; i++) due(3, "the end of the longest row", x.people(0, i, 12), 0);
        x.put(0, 58, 10);
        due(3, "the last three of the longest row", x.people(0, 57, 12), 1);
        due(3, "dies", x.of(1, 1), 10);
    }

    private static void meet() {
        NameRests x = with(10, 20, 15, 30, 20, 40);
        due(4, "ordinary", x.meet(1, 15), 0);
        due(4, "last year of the first", x.meet(100, 19), 1);
        due(4, "ahead of one's birth", x.meet(1, 14), BAD);
        due(4, "behind one's death", x.meet(1, 20), BAD);
        due(4, "never at once", x.meet(2, 20), BAD);
        due(4, "one and the same", x.meet(0, 15), BAD);
        due(4, "one and the same", x.meet(101, 15), BAD);
        due(4, "nobody", x.meet(3, 15), BAD);
        due(4, "nobody", x.meet(301, 15), BAD);
        due(4, "below 0", x.meet(-1, 15), BAD);
        due(4, "far below 0", x.meet(LOW, 15), BAD);
        due(4, "far above", x.meet(HIGH, 15), BAD);
        due(4, "no year", x.meet(1, -1), BAD);
        due(4, "no year", x.meet(1, 100), BAD);
        for (int m = 2; m < 16; m++) due(4, "on", x.meet(102, 25), m);
        due(4, "full", x.meet(102, 25), FULL);
        due(4, "bad ahead of full", x.meet(102, 30), BAD);
        due(4, "count", x.count(1), 16);
    }

    private static void hearing() {
        NameRests x = new NameRests();
        due(5, "becomes 1", x.hearing(1), 0);
        due(5, "bad", x.hearing(2), BAD);
        due(5, "bad", x.hearing(-1), BAD);
        due(5, "becomes 0", x.hearing(0), 1);
        due(5, "stays 0", x.hearing(0), 0);
    }

    private static void name() {
        NameRests x = with(0, 10, 0, 10);
        due(6, "first", x.name(0, 0), -1);
        due(6, "next", x.name(0, 11), 0);
        due(6, "none", x.name(0, -1), 11);
        due(6, "again", x.name(0, 4), -1);
        due(6, "same name", x.name(1, 4), -1);
        due(6, "bad", x.name(0, 12), VOID);
        due(6, "bad", x.name(0, -2), VOID);
        due(6, "bad", x.name(2, 0), VOID);
        due(6, "bad", x.name(-1, 0), VOID);
        due(6, "bearers", x.of(4, 12), 3);
    }

    private static void fame() {
        NameRests x = with(50, 60);
        due(7, "becomes 1", x.fame(11, 1), 0);
        due(7, "stays", x.fame(11, 1), 1);
        due(7, "it is", x.of(11, 11), 1);
        due(7, "bad", x.fame(12, 1), BAD);
        due(7, "bad", x.fame(-1, 1), BAD);
        due(7, "bad", x.fame(0, 2), BAD);
        due(7, "bad", x.fame(0, -1), BAD);
        x.name(0, 11);
        due(7, "not held ahead of the bearer", x.held(11, 49, 0), 0);
        due(7, "held behind it", x.held(11, 99, 0), 1);
        due(7, "without holders", x.held(11, 99, 1), 0);
        due(7, "fame without a bearer", x.fame(0, 1), 0);
        due(7, "not held", x.held(0, 99, 0), 0);
        due(7, "becomes 0", x.fame(11, 0), 1);
        due(7, "free", x.held(11, 99, 0), 0);
    }

    private static void mend() {
        NameRests x = with(10, 20, 10, 90);
        due(8, "dies", x.mend(0, 0, 30), 20);
        due(8, "lives", x.of(0, 1), 30);
        due(8, "least", x.mend(0, 0, 11), 30);
        due(8, "most", x.mend(0, 0, 100), 11);
        due(8, "bad", x.mend(0, 0, 10), BAD);
        due(8, "bad", x.mend(0, 0, 101), BAD);
        due(8, "bad", x.mend(2, 0, 50), BAD);
        due(8, "bad", x.mend(-1, 0, 50), BAD);
        due(8, "worth", x.mend(11, 1, 9), 1);
        due(8, "worth", x.mend(11, 1, 0), 9);
        due(8, "bad", x.mend(11, 1, 10), BAD);
        due(8, "bad", x.mend(11, 1, -1), BAD);
        due(8, "bad", x.mend(12, 1, 1), BAD);
        due(8, "bad", x.mend(-1, 1, 1), BAD);
        due(8, "bad", x.mend(0, 2, 1), BAD);
        due(8, "bad", x.mend(0, -1, 1), BAD);
        due(8, "the same number", x.mend(11, 1, 0), 0);
        due(8, "changes", x.count(4), 5);
    }

    private static void of() {
        NameRests x = with(30, 40, 10, 50, 30, 35, 10, 12);
        int[] places = {2, 0, 3, 1};
        for (int p = 0; p < 4; p++) due(9, "place of " + p, x.of(p, 3), places[p]);
        x.name(2, 5);
        x.name(0, 5);
        due(9, "born", x.of(2, 0), 30);
        due(9, "dies", x.of(2, 1), 35);
        due(9, "name", x.of(2, 2), 5);
        due(9, "bearers", x.of(5, 12), 5);
        x.meet(201, 33);
        due(9, "whom", x.of(0, 20), 201);
        due(9, "when", x.of(0, 21), 33);
        due(9, "counts", x.of(0, 22), 1);
        x.mend(2, 0, 33);
        due(9, "counts no more", x.of(0, 22), 0);
        x.mend(2, 0, 34);
        due(9, "counts again", x.of(0, 22), 1);
        int[][] bad = {{4, 0}, {-1, 0}, {0, 4}, {0, -1}, {0, 9}, {12, 10}, {-1, 10}, {0, 13}, {0, 19}, {1, 20},
            {-1, 20}, {0, 23}, {0, HIGH}, {0, LOW}, {HIGH, 3}, {LOW, 12}};
        for (int[] b : bad) due(9, "bad " + b[0] + ", " + b[1], x.of(b[0], b[1]), VOID);
    }

    private static void feed() {
        NameRests x = new NameRests();
        due(10, "bad", x.feed(-1), BAD);
        due(10, "bad", x.feed(256), BAD);
        due(10, "0", x.feed(0), 1);
        due(10, "255", x.feed(255), 2);
        for (int k = 3; k <= 120; k++) due(10, "on", x.feed('a'), k);
        due(10, "full", x.feed('a'), FULL);
        due(10, "bad ahead of full", x.feed(256), BAD);
        due(10, "count", x.count(3), 120);
        due(10, "law", x.law(), -100);
        due(10, "empty", x.count(3), 0);
    }

    private static void lawFaults() {
        String[] good = {
            "a", "0", "9999", "0000", "a+d-f*w/i%n", "a<d", "a=d&f>w|i", "!a", "-a", "--a", "a--d", "a-!d", "(a)",
            "a?d", "a?d;f?w;i", "a;d", "1;2;3", "((((((a))))))", "!!!!!!a", "------1", "!(-(!(a)))", "a<(d<f)",
            "(a<d)<f", "a?!d;-f", "!!!!!!a+!!!!!!a", times("a+", 59) + "a", times("a+", 58) + "9999",
        };
        for (String text : good) due(11, text, tell(new NameRests(), text), 1);
        Object[][] bad = {
            {"", 0}, {";", 0}, {"a;", 2}, {"a;;a", 2}, {"?a", 0}, {"a?", 2}, {"a?;a", 2}, {"a?d?f", 3}, {"a ", 1},
            {" a", 0}, {"b", 0}, {"aa", 1}, {"12345", 4}, {"1a", 1}, {"a1", 1}, {"a<d<f", 3}, {"a=d>f", 3}, {"a<", 2},
            {"a||d", 2}, {"a&", 2}, {"a*", 2}, {"a*+d", 2}, {"+a", 0}, {"a+-", 3}, {"(", 1}, {"()", 1}, {"(a", 2},
            {"a)", 1}, {"(a?d)", 2}, {"(a;d)", 2}, {"(((((((a", 6}, {"!!!!!!!a", 6}, {"-------a", 6}, {"!-(!-(!a", 6},
            {"!(-(!(a+(d", 8}, {"(!(-(-(a", 6}, {"a!d", 1}, {"a(d)", 1}, {"a?d;q", 4}, {"A", 0}, {"\u00e1", 0}, {"\u0000", 0},
            {"a<d+f<w", 5}, {"!(-(!(-(!(-a)))", 6}, {"(a|d)?(f?w", 8}, {"(a<d<f)", 4}, {"!!!!!!a+!!!!!!!a", 14}, {"((((((a))))))+(((((((a", 20},
        };
        for (Object[] b : bad) {
            due(11, "'" + b[0] + "'", tell(new NameRests(), (String) b[0]), -100 - (Integer) b[1]);
        }
        due(11, "120 bytes that end too early", tell(new NameRests(), times("a+", 60)), -220);
        due(11, "120 bytes, the last one wrong", tell(new NameRests(), times("a+", 59) + "aa"), -219);
        NameRests x = with(0, 10);
        x.name(0, 0);
        due(11, "law 0", tell(x, "0"), 1);
        due(11, "not held", x.held(0, 5, 0), 0);
        due(11, "law 5", tell(x, "5"), 1);
        due(11, "held", x.held(0, 5, 0), 1);
        due(11, "no line counts", tell(x, "0?1"), 1);
        due(11, "nothing of the earlier law is left", x.held(0, 5, 0), 0);
        due(11, "a fault", tell(x, "1+"), -102);
        due(11, "the law stays", x.held(0, 5, 0), 0);
        due(11, "the tape is empty", x.count(3), 0);
        due(11, "an empty tape is no text", x.law(), -100);
        due(11, "the law stays", x.held(0, 5, 0), 0);
    }

    /** Whether a name of a living bearer (age 30, worth 1, name 3) is held by a law. */
    private static int heldBy(String text) {
        NameRests x = with(20, 90);
        x.name(0, 3);
        if (tell(x, text) != 1) return VOID;
        return x.held(3, 50, 0);
    }

    private static void lawValues() {
        String[] held = {
            "1", "a=30", "n=3", "w=1", "f=0", "d=0", "i=1", "2+3*4=14", "(2+3)*4=20", "7/2=3", "-7/2=-3", "-7%3=-1", "7%-3=1",
            "5/0=0", "5%0=0", "10-3-2=5", "24/4/2=3", "24/4*2=12", "17%10%4=3", "!0=1", "!5=0", "!!5=1", "--5=5", "-5<0",
            "1|0", "0|1", "1&1", "(5|0)=1", "(5&7)=1", "5&7=7", "(3<4)=1", "(4<4)=0", "(4>3)=1", "(3=4)=0", "1|0&0", "!1|1",
            "9999*9999*9999<0", "2000*2000*2000<0", "0?0;1", "0?1;0?1;2", "1?1;0", "5?5", "1;0", "-1", "a-30=0|0",
            "-a+30=0", "!a+1=1", "1?2;1/0", "2-1-1=0", "0-1<0", "(a<80)=1",
            "(-2000*1000*1000-147*1000*1000-483*1000-648)/-1<0", "(-2000*1000*1000-147*1000*1000-483*1000-648)%-1=0",
        };
        for (String text : held) due(11, text, heldBy(text), 1);
        String[] free = {
            "0", "a-30", "1&0", "0|0", "0?1", "0?1;0?1", "0?1;0", "1?0;1", "0;1", "5/0", "5%0", "!1", "1=2", "3<3", "3>3",
            "a/31", "n-3", "1&2&0", "0&1|0", "i-1", "-0", "1/2", "w<1",
        };
        for (String text : free) due(11, text, heldBy(text), 0);
    }

    private static void lawLetters() {
        NameRests x = with(10, 40, 20, 100, 30, 100);
        x.name(0, 7);
        x.mend(7, 1, 6);
        x.meet(1, 25);
        x.meet(2, 35);
        due(11, "age", tell(x, "a=40"), 1);
        due(11, "age 40 in 60", x.held(7, 60, 1), 2);
        due(11, "age 40 in 70", x.held(7, 70, 1), 4);
        due(11, "dead for", tell(x, "d=5"), 1);
        due(11, "5 years behind DIES", x.held(7, 45, 1), 6);
        due(11, "4 years", x.held(7, 44, 1), 0);
        due(11, "dead for 0", tell(x, "d=0"), 1);
        due(11, "the year of DIES", x.held(7, 40, 1), 6);
        due(11, "the last year of life", x.held(7, 39, 1), 7);
        due(11, "long ahead of it", x.held(7, 10, 1), 1);
        due(11, "a year behind", x.held(7, 41, 1), 0);
        due(11, "itself", tell(x, "i"), 1);
        due(11, "the bearer alone", x.held(7, 38, 1), 1);
        due(11, "others", tell(x, "!i"), 1);
        due(11, "others alone", x.held(7, 38, 1), 6);
        due(11, "worth", tell(x, "w=6"), 1);
        due(11, "held", x.held(7, 38, 1), 7);
        due(11, "fame", tell(x, "f"), 1);
        due(11, "not held", x.held(7, 38, 1), 0);
        x.fame(7, 1);
        due(11, "holders by fame", x.held(7, 38, 1), 7);
    }

    private static void knows() {
        NameRests x = with(0, 100, 0, 100, 0, 100, 0, 100, 50, 60);
        x.meet(203, 20);
        x.meet(102, 10);
        x.meet(1, 10);
        x.meet(302, 20);
        due(12, "oneself", x.knows(0, 9), 1);
        due(12, "in that year", x.knows(0, 10), 3);
        due(12, "the other too", x.knows(1, 10), 7);
        due(12, "no hearing", x.knows(3, 99), 12);
        x.hearing(1);
        due(12, "by numbers in a year: 1 met 2 ahead of 0", x.knows(0, 10), 7);
        due(12, "2 met 1 ahead of that", x.knows(2, 10), 6);
        due(12, "by years: 3 hears of 1 by 2", x.knows(3, 20), 14);
        due(12, "2 does not hear of 0", x.knows(2, 99), 14);
        due(12, "not born yet", x.knows(4, 10), 16);
        due(12, "dead", x.knows(4, 99), 16);
        due(12, "bad", x.knows(5, 10), BAD);
        due(12, "bad", x.knows(-1, 10), BAD);
        due(12, "bad", x.knows(0, 100), BAD);
        due(12, "bad", x.knows(0, -1), BAD);
        x.mend(2, 0, 15);
        due(12, "a meeting that does not count", x.knows(3, 99), 8);
        due(12, "of one who is dead", x.knows(2, 99), 6);
        NameRests y = with(0, 50, 0, 50, 0, 50, 0, 50);
        y.hearing(1);
        y.meet(1, 1);
        y.meet(203, 1);
        y.meet(2, 2);
        due(12, "both at once", y.knows(0, 2), 15);
        due(12, "both at once", y.knows(2, 2), 15);
        due(12, "others do not hear", y.knows(1, 2), 3);
    }

    private static void held() {
        NameRests x = with(0, 30, 10, 95, 20, 40, 60, 70);
        x.name(0, 2);
        x.name(3, 2);
        x.meet(1, 15);
        x.meet(2, 25);
        due(13, "ahead of the meeting", x.held(2, 14, 1), 1);
        due(13, "in its year", x.held(2, 15, 1), 3);
        due(13, "all who met", x.held(2, 25, 1), 7);
        due(13, "the dead hold nothing", x.held(2, 30, 1), 6);
        due(13, "the last who knew", x.held(2, 40, 1), 2);
        due(13, "till the age of 79", x.held(2, 89, 1), 2);
        due(13, "not at 80", x.held(2, 90, 1), 0);
        due(13, "two bearers", x.held(2, 60, 1), 10);
        due(13, "is held", x.held(2, 89, 0), 1);
        due(13, "is free", x.held(2, 90, 0), 0);
        due(13, "till", x.held(2, 0, 2), 90);
        due(13, "till, from a free year", x.held(2, 95, 2), 95);
        due(13, "nobody's name", x.held(3, 7, 2), 7);
        x.mend(3, 0, 100);
        due(13, "till: never free", x.held(2, 0, 2), NOT);
        due(13, "one holds one's own at 80", with80().held(0, 99, 1), 1);
        int[][] bad = {{12, 0, 0}, {-1, 0, 0}, {0, 100, 0}, {0, -1, 0}, {0, 0, 3}, {0, 0, -1}};
        for (int[] b : bad) due(13, "bad", x.held(b[0], b[1], b[2]), BAD);
    }

    private static NameRests with80() {
        NameRests x = with(0, 100, 5, 100);
        x.name(0, 0);
        x.meet(1, 6);
        return x;
    }

    private static void free() {
        NameRests x = with(10, 20, 10, 15);
        due(14, "all", x.free(12), 4095);
        x.name(0, 0);
        x.name(1, 11);
        due(14, "ahead", x.free(9), 4095);
        due(14, "both held", x.free(10), 2046);
        due(14, "one", x.free(15), 4094);
        due(14, "none", x.free(20), 4095);
        x.fame(11, 1);
        due(14, "fame", x.free(99), 2047);
        due(14, "bad", x.free(100), BAD);
        due(14, "bad", x.free(-1), BAD);
    }

    private static void most() {
        NameRests x = new NameRests();
        due(15, "nobody", x.most(0), 0);
        due(15, "nobody", x.most(1), 0);
        x = with(10, 20, 15, 30, 18, 19, 40, 50, 40, 50, 40, 50);
        for (int p = 0; p < 6; p++) x.name(p, p);
        due(15, "three", x.most(0), 3);
        due(15, "first", x.most(1), 18);
        x.name(2, 1);
        due(15, "later", x.most(0), 3);
        due(15, "later", x.most(1), 40);
        NameRests y = with(0, 100);
        y.name(0, 0);
        due(15, "from year 0 on", y.most(1), 0);
        due(15, "one", y.most(0), 1);
        due(15, "bad", x.most(2), BAD);
        due(15, "bad", x.most(-1), BAD);
    }

    private static void judge() {
        NameRests x = new NameRests();
        due(16, "nobody", x.judge(), NOT);
        x = with(30, 60, 10, 50, 20, 21, 10, 40);
        due(16, "no names", x.judge(), NOT);
        x.name(0, 4);
        x.name(1, 4);
        due(16, "held by the elder", x.judge(), 0);
        x.mend(1, 0, 30);
        due(16, "free when it is born", x.judge(), NOT);
        x.mend(1, 0, 31);
        due(16, "held", x.judge(), 0);
        x.name(3, 4);
        due(16, "of the same year, by numbers", x.judge(), 3);
        x.name(1, -1);
        due(16, "the one ahead has none", x.judge(), 0);
        x.name(3, -1);
        due(16, "nobody ahead has it", x.judge(), NOT);
        x.fame(4, 1);
        due(16, "its own fame does not count", x.judge(), NOT);
        x.name(2, 4);
        due(16, "fame of one who is dead", x.judge(), 0);
        x.fame(4, 0);
        x.meet(302, 20);
        due(16, "somebody who met the dead lives", x.judge(), 0);
        x.mend(3, 0, 30);
        due(16, "nobody does", x.judge(), NOT);
        NameRests y = with(10, 100, 15, 95, 95, 100);
        y.name(0, 1);
        y.name(2, 1);
        y.mend(0, 0, 20);
        y.meet(1, 16);
        due(16, "one who knew it is 80", y.judge(), NOT);
        y.mend(1, 0, 100);
        y.hearing(1);
        y.meet(102, 95);
        due(16, "the child itself hears of it when it is born", y.judge(), 2);
    }

    private static void give() {
        NameRests x = with(0, 50, 10, 20, 30, 90, 30, 90, 60, 61, 0, 5);
        due(17, "bad", x.give(6, 0), BAD);
        due(17, "bad", x.give(-1, 0), BAD);
        due(17, "bad", x.give(0, 3), BAD);
        due(17, "bad", x.give(0, -1), BAD);
        due(17, "least", x.give(0, 0), 0);
        due(17, "it has one", x.give(0, 0), STATE);
        due(17, "bad ahead of state", x.give(0, 3), BAD);
        due(17, "in deed", x.of(0, 2), 0);
        due(17, "next", x.give(1, 0), 1);
        due(17, "held latest, of those that are free", x.give(2, 1), 1);
        x.name(2, 3);
        due(17, "those ahead of the same year", x.give(3, 0), 1);
        x.name(3, -1);
        x.name(4, 1);
        due(17, "those behind do not count", x.give(3, 0), 1);
        x.name(3, -1);
        x.name(4, -1);
        x.mend(5, 1, 9);
        x.mend(8, 1, 9);
        due(17, "most worth", x.give(3, 2), 5);
        x.mend(0, 1, 9);
        due(17, "most worth that is free again", x.give(4, 2), 0);
        x.name(4, -1);
        due(17, "held latest: 0 till 49, 1 till 19", x.give(4, 1), 0);
        x.name(4, -1);
        x.mend(0, 0, 15);
        due(17, "held latest: 1", x.give(4, 1), 1);
        due(17, "never held: least", with(3, 4).give(0, 1), 0);
        NameRests y = with(0, 99, 0, 99, 0, 99, 0, 99, 0, 99, 0, 99, 0, 99, 0, 99, 0, 99, 0, 99, 0, 99, 98, 100);
        for (int p = 0; p < 11; p++) y.name(p, p);
        due(17, "the last name", y.give(11, 0), 11);
        y.name(11, -1);
        for (int v = 0; v < 12; v++) y.fame(v, 1);
        y.name(0, 11);
        due(17, "0 has no bearer ahead", y.give(11, 1), 0);
        NameRests tie = with(0, 10, 0, 10, 20, 30);
        tie.name(0, 6);
        tie.name(1, 4);
        due(17, "held till the same year: the least", tie.give(2, 1), 4);
        NameRests early = with(0, 1, 5, 9);
        early.name(0, 6);
        due(17, "held in year 0 alone", early.give(1, 1), 6);
    }

    private static NameRests fiveBorn() {
        return with(10, 30, 10, 20, 25, 60, 5, 6, 70, 80);
    }

    private static void run() {
        NameRests x = fiveBorn();
        x.name(0, 9);
        x.name(4, 9);
        x.mend(7, 1, 5);
        x.mend(3, 1, 5);
        int[][] names = {{0, 1, 1, 0, 0}, {0, 1, 1, 0, 1}, {3, 7, 7, 3, 3}};
        for (int way = 0; way < 3; way++) {
            for (int p = 0; p < 5; p++) due(18, "way " + way + " person " + p, x.run(way, p), names[way][p]);
        }
        due(18, "in thought", x.of(0, 2), 9);
        due(18, "in thought", x.of(1, 2), -1);
        due(18, "bad", x.run(3, 0), BAD);
        due(18, "bad", x.run(-1, 0), BAD);
        due(18, "bad", x.run(0, 5), BAD);
        due(18, "bad", x.run(0, -1), BAD);
        due(18, "bad without people", new NameRests().run(0, 0), BAD);
        x.meet(1, 15);
        x.meet(2, 26);
        due(18, "who met the dead hold a name: 1 by 0", x.run(0, 2), 2);
        due(18, "nobody is left in 70", x.run(0, 4), 0);
        x.mend(2, 0, 71);
        due(18, "0 and 2 are held by one who met", x.run(0, 4), 1);
        x.hearing(1);
        due(18, "one who heard holds 1, too", x.run(0, 4), 3);
        due(18, "held latest: 0 is the only one that was, but for what is held", x.run(1, 4), 3);
    }

    private static void used() {
        NameRests x = fiveBorn();
        x.mend(7, 1, 5);
        x.mend(3, 1, 5);
        x.name(0, 9);
        int[][] due = {{2, 5, 0}, {2, 5, 0}, {2, 25, 0}};
        for (int way = 0; way < 3; way++) {
            for (int what = 0; what < 3; what++) due(19, "way " + way + " what " + what, x.used(way, what), due[way][what]);
        }
        x.mend(0, 1, 0);
        due(19, "worth 0", x.used(0, 1), 2);
        due(19, "bad", x.used(3, 0), BAD);
        due(19, "bad", x.used(-1, 0), BAD);
        due(19, "bad", x.used(0, 3), BAD);
        due(19, "bad", x.used(0, -1), BAD);
        NameRests all = new NameRests();
        for (int p = 0; p < 12; p++) all.person(1, 99);
        for (int way = 0; way < 3; way++) {
            due(19, "twelve of one year", all.used(way, 0), 12);
            due(19, "none is without", all.used(way, 2), 0);
        }
        for (int what = 0; what < 3; what++) due(19, "nobody", new NameRests().used(1, what), 0);
    }

    private static void apart() {
        NameRests x = with(0, 50, 0, 100, 0, 100, 0, 100);
        x.name(0, 0);
        x.hearing(1);
        x.meet(1, 10);
        x.meet(102, 20);
        x.meet(103, 20);
        due(20, "the one by which all know", x.apart(0, 60), 1);
        due(20, "in its year", x.apart(0, 50), 1);
        due(20, "the bearer lives", x.apart(0, 49), NOT);
        due(20, "free already: too old", x.apart(0, 80), 0);
        due(20, "free already: no bearer", x.apart(1, 60), 0);
        x.meet(2, 5);
        x.meet(300, 6);
        due(20, "each met it", x.apart(0, 60), 25);
        x.hearing(0);
        due(20, "without hearing, too", x.apart(0, 60), 25);
        x.mend(3, 0, 55);
        due(20, "who is dead holds nothing", x.apart(0, 60), 9);
        x.mend(1, 0, 10);
        due(20, "a meeting that does not count is in no set", x.apart(0, 60), 8);
        x.fame(0, 1);
        due(20, "fame", x.apart(0, 60), NOT);
        due(20, "bad", x.apart(12, 0), BAD);
        due(20, "bad", x.apart(-1, 0), BAD);
        due(20, "bad", x.apart(0, 100), BAD);
        due(20, "bad", x.apart(0, -1), BAD);
        NameRests y = with(0, 50, 0, 100, 20, 100, 0, 100);
        tell(y, "a<50");
        y.hearing(1);
        y.name(0, 0);
        y.meet(102, 30);
        y.meet(302, 31);
        y.meet(1, 10);
        y.meet(3, 10);
        due(20, "of like ones the least bits", y.apart(0, 60), 3);
        y.mend(1, 0, 30);
        due(20, "one way is gone", y.apart(0, 60), 2);
        y.mend(1, 0, 29);
        due(20, "the year ahead of a meeting", y.apart(0, 30), NOT);
        due(20, "who is 30 holds it", y.apart(0, 49), NOT);
        NameRests z = with(0, 20, 0, 100, 0, 100);
        z.name(0, 0);
        z.hearing(1);
        z.meet(102, 5);
        z.meet(1, 10);
        due(20, "met too early to hear", z.apart(0, 30), 2);
        z.meet(1, 12);
        due(20, "met twice", z.apart(0, 30), 6);
        due(20, "meetings behind that year are no matter", with(0, 5, 0, 9).apart(0, 1), 0);
        tell(z, "!i");
        due(20, "nobody holds its own", z.apart(0, 11), 2);
        NameRests own = with(0, 60, 0, 99);
        own.name(0, 1);
        own.name(1, 1);
        own.meet(1, 10);
        due(20, "both bear it", own.apart(1, 70), NOT);
        tell(own, "!i");
        due(20, "parted", own.apart(1, 70), 1);
        NameRests often = with(0, 99, 0, 20);
        often.name(1, 0);
        for (int m = 0; m < 16; m++) often.meet(1, m);
        due(20, "the first one holds; all 16 meetings", often.apart(0, 30), 65535);
        due(20, "by that year", often.apart(0, 20), 65535);
    }

    private static void freed() {
        NameRests x = with(0, 50, 0, 90, 0, 70, 20, 60);
        x.name(0, 0);
        x.name(3, 11);
        x.name(1, 5);
        x.meet(1, 10);
        x.meet(102, 10);
        due(21, "two hold 0", x.freed(0, 40), 0);
        due(21, "one's own", x.freed(3, 40), 2048);
        due(21, "0 and 5 by one alone: 2 holds 5", x.freed(1, 60), 1);
        due(21, "when 2 is dead", x.freed(1, 70), 33);
        due(21, "its own at 80", x.freed(1, 85), 32);
        due(21, "one who does not live", x.freed(0, 50), 0);
        due(21, "not born", x.freed(3, 19), 0);
        x.fame(0, 1);
        due(21, "fame stays", x.freed(1, 70), 32);
        due(21, "bad", x.freed(4, 0), BAD);
        due(21, "bad", x.freed(-1, 0), BAD);
        due(21, "bad", x.freed(0, 100), BAD);
        due(21, "bad", x.freed(0, -1), BAD);
        NameRests y = with(0, 50, 0, 90, 0, 90);
        y.hearing(1);
        y.name(0, 0);
        y.meet(1, 10);
        y.meet(102, 60);
        due(21, "what another heard by it stays", y.freed(1, 60), 0);
        due(21, "a year ahead", y.freed(1, 59), 1);
    }

    private static void never() {
        NameRests x = with(0, 100, 10, 60, 20, 80, 20, 30, 50, 90, 51, 90);
        x.name(0, 1);
        x.name(2, 1);
        x.name(4, 1);
        due(22, "by both behind it", x.never(0), 14);
        due(22, "by one", x.never(2), 3);
        due(22, "by none", x.never(4), 0);
        due(22, "without a name", x.never(1), 0);
        x.person(20, 100);
        x.name(6, 1);
        due(22, "behind it by its number", x.never(2), 75);
        due(22, "by the one behind", x.never(6), 7);
        due(22, "bad", x.never(7), BAD);
        due(22, "bad", x.never(-1), BAD);
        NameRests y = with(10, 50, 10, 50);
        due(22, "both without a name", y.never(0), 0);
    }

    private static void needs() {
        due(23, "nobody", new NameRests().needs(5, 20, 0), 0);
        due(23, "nobody", new NameRests().needs(5, 20, 1), 0);
        due(23, "one", with(30, 40).needs(HIGH, 20, 0), 1);
        due(23, "born in 99", with(99, 100, 99, 100).needs(LOW, 20, 1), 2);
        NameRests x = with(0, 100, 50, 60);
        due(23, "dies in 49", x.needs(0, 1, 0), 1);
        due(23, "on from time to time", x.needs(0, 2, 1), 2);
        due(23, "the mean is cut", x.needs(0, 2, 0), 1);
        due(23, "two", x.needs(1, 3, 0), 2);
        due(23, "cut", x.needs(1, 20, 0), 1);
        due(23, "3 times", x.needs(-3, 3, 1), 1);
        due(23, "20 times", x.needs(-3, 20, 1), 2);
        due(23, "in thought", x.of(0, 1), 100);
        due(23, "no change", x.count(4), 0);
        NameRests y = with(50, 60, 0, 100);
        due(23, "by numbers, not by the order", y.needs(5, 1, 0), 1);
        due(23, "by numbers, not by the order", y.needs(1, 1, 0), 1);
        int[][] bad = {{0, 0}, {21, 0}, {-1, 0}, {1, 2}, {1, -1}, {HIGH, 0}, {LOW, 1}};
        for (int[] b : bad) due(23, "bad", x.needs(0, b[0], b[1]), BAD);
    }

    private static void imageAndBack() {
        NameRests x = with(0, 10, 0, 10);
        due(25, "none", x.back(), STATE);
        x.name(0, 3);
        due(24, "two", x.image(), 2);
        x.name(0, 4);
        x.name(1, 5);
        x.person(0, 10);
        x.name(2, 6);
        due(25, "back", x.back(), 2);
        due(25, "as it was", x.of(0, 2), 3);
        due(25, "without", x.of(1, 2), -1);
        due(25, "who came since", x.of(2, 2), 6);
        x.name(0, 7);
        due(25, "the image stays", x.back(), 2);
        due(25, "as it was", x.of(0, 2), 3);
        due(24, "another", x.image(), 3);
        x.name(2, -1);
        due(25, "back", x.back(), 3);
        due(25, "as it was", x.of(2, 2), 6);
        x.mend(0, 0, 50);
        x.back();
        due(25, "names alone", x.of(0, 1), 50);
        NameRests y = new NameRests();
        due(24, "nobody", y.image(), 0);
        y.person(0, 5);
        y.name(0, 1);
        due(25, "nobody", y.back(), 0);
        due(25, "as it is", y.of(0, 2), 1);
    }

    private static void undoAndRedo() {
        NameRests x = with(0, 10, 0, 10);
        due(26, "none", x.undo(), STATE);
        due(27, "none", x.redo(), STATE);
        x.mend(0, 0, 20);
        x.mend(5, 1, 7);
        x.mend(0, 0, 30);
        due(26, "the latest", x.undo(), 2);
        due(26, "dies", x.of(0, 1), 20);
        due(26, "next", x.undo(), 1);
        due(26, "worth", x.of(5, 10), 1);
        due(27, "again", x.redo(), 1);
        due(27, "worth", x.of(5, 10), 7);
        x.mend(5, 1, 7);
        due(27, "the same number is no change", x.redo(), 0);
        due(27, "dies", x.of(0, 1), 30);
        due(27, "none", x.redo(), STATE);
        x.undo();
        x.mend(5, 1, 8);
        due(27, "another came behind", x.redo(), STATE);
        due(26, "how many", x.undo(), 2);
        due(26, "worth", x.of(5, 10), 7);
        due(26, "bad changes nothing", x.mend(5, 1, 10), BAD);
        due(27, "still", x.redo(), 0);
        NameRests y = new NameRests();
        for (int k = 1; k <= 41; k++) y.mend(k % 12, 1, k % 2 == 0 ? 2 + k / 12 : 3 + k / 12);
        due(26, "40 at most", y.count(4), 40);
        for (int k = 39; k >= 0; k--) due(26, "on", y.undo(), k);
        due(26, "none", y.undo(), STATE);
        due(26, "the oldest stays done", y.of(1, 10), 3);
        due(26, "the next does not", y.of(2, 10), 1);
        for (int k = 39; k >= 0; k--) due(27, "on", y.redo(), k);
        due(27, "none", y.redo(), STATE);
        due(27, "all done again", y.of(41 % 12, 10), 6);
    }

    /** Of 45 changes, by turns of two kinds, the first 5 stay done. */
    private static void longUndo() {
        NameRests x = with(0, 100, 0, 100);
        for (int k = 0; k < 45; k++) {
            if (k % 2 == 0) x.mend(k / 2 % 2, 0, 10 + k);
            else x.mend(k % 12, 1, k % 10 == 1 ? 0 : k % 10);
        }
        for (int k = 39; k >= 0; k--) due(26, "on", x.undo(), k);
        due(26, "none", x.undo(), STATE);
        due(26, "dies of 0: changed by the 1st and the 5th", x.of(0, 1), 14);
        due(26, "dies of 1: changed by the 3rd", x.of(1, 1), 12);
        due(26, "worth of 1: changed by the 2nd", x.of(1, 10), 0);
        due(26, "worth of 3: changed by the 4th", x.of(3, 10), 3);
        due(26, "worth of 5: as at first", x.of(5, 10), 1);
        for (int k = 39; k >= 0; k--) due(27, "on", x.redo(), k);
        due(27, "dies of 0: the 45th", x.of(0, 1), 54);
        due(27, "dies of 1: the 43rd", x.of(1, 1), 52);
        int[] worths = {7, 9, 0, 3, 3, 5};
        for (int k = 0; k < 6; k++) due(27, "worth of " + (2 * k + 1), x.of(2 * k + 1, 10), worths[k]);
        due(27, "none", x.redo(), STATE);
    }

    private static void body() {
        NameRests x = new NameRests();
        due(28, "bad", x.body(-1), BAD);
        due(28, "bad", x.body(8), BAD);
        for (int n = 0; n < 50; n++) due(28, "on", x.body(n % 8), n);
        due(28, "full", x.body(0), FULL);
        due(28, "bad ahead of full", x.body(8), BAD);
        due(28, "count", x.count(5), 50);
    }

    private static void actAndTrace() {
        NameRests x = new NameRests();
        for (int kind = 0; kind < 8; kind++) x.body(kind);
        // with x 5, n the kind: gives, holds, knows, tells
        int[][] due = {
            {5, 10, 5, 9}, {9, 18, 4, 18}, {7, -14, 7, -17}, {8, -18, 18, -24},
            {12, 24, 1, 22}, {10, -22, -7, -26}, {22, 44, 3, 37}, {23, 51, 2, 45},
        };
        int[][] tellsTrace = {
            {2, 10, 1, 11}, {2, 10, 20, 1, 11}, {2, 30, 10, 1, 11}, {2, 41, 30, 10, 1, 40, 11},
            {50, 2, 10, 20, 1, 11}, {61, 2, 41, 30, 10, 1, 60, 40, 11, 1}, {2, 10, 70, 1, 11}, {2, 80, 10, 81, 70, 1, 11, 11},
        };
        for (int kind = 0; kind < 8; kind++) {
            for (int act = 0; act < 4; act++) due(29, "kind " + kind + " act " + act, x.act(kind, act, 5), due[kind][act]);
            int[] trace = tellsTrace[kind];
            due(37, "how many ran", x.count(6), trace.length);
            for (int i = 0; i < trace.length; i++) due(30, "kind " + kind + " place " + i, x.trace(i), trace[i]);
            due(30, "no more", x.trace(trace.length), BAD);
            due(30, "below 0", x.trace(-1), BAD);
        }
        due(29, "wraps", x.act(0, 1, HIGH), -2);
        due(29, "wraps", x.act(1, 0, HIGH), LOW + 3);
        int[][] none = {{8, 0}, {-1, 0}, {0, 4}, {0, -1}, {HIGH, LOW}};
        for (int[] n : none) {
            x.act(0, 0, 1);
            due(30, "ran", x.trace(0), 1);
            due(29, "no such one", x.act(n[0], n[1], 1), 0);
            due(30, "no trace", x.trace(0), BAD);
            due(37, "none ran", x.count(6), 0);
        }
        due(30, "far above", x.trace(HIGH), BAD);
    }

    private static void keep() {
        NameRests x = new NameRests();
        x.body(3);
        due(31, "body", x.keep(5, 0), 1);
        due(31, "it is there", x.taken(5, 3), 3);
        due(31, "nothing", x.keep(5, -1), 1);
        due(31, "it is gone", x.taken(5, 3), -11);
        x.row(0, 2, 4);
        due(31, "in a row's place", x.keep(0, 0), 1);
        due(31, "no row", x.put(0, 0, 1), -12);
        x.row(0, 2, 4);
        due(31, "a row goes, too", x.keep(0, -1), 1);
        due(31, "nothing", x.put(0, 0, 1), -11);
        due(31, "bad", x.keep(6, 0), BAD);
        due(31, "bad", x.keep(-1, 0), BAD);
        due(31, "bad", x.keep(0, 1), BAD);
        due(31, "bad", x.keep(0, -2), BAD);
    }

    private static void row() {
        NameRests x = new NameRests();
        x.body(0);
        due(32, "row", x.row(0, 0, 60), 1);
        due(32, "empty row", x.row(1, 4, 0), 1);
        due(32, "has no place", x.put(1, 0, 1), -13);
        due(32, "bad", x.row(6, 0, 1), BAD);
        due(32, "bad", x.row(-1, 0, 1), BAD);
        due(32, "bad", x.row(0, 5, 1), BAD);
        due(32, "bad", x.row(0, -1, 1), BAD);
        due(32, "bad", x.row(0, 0, 61), BAD);
        due(32, "bad", x.row(0, 0, HIGH), BAD);
        due(32, "size", x.row(0, 0, -1), -14);
        due(32, "size", x.row(0, 0, LOW), -14);
        due(32, "bad ahead of size", x.row(0, 5, -1), BAD);
        due(32, "bad ahead of size", x.row(6, 0, -1), BAD);
        due(32, "what is refused changes nothing", x.put(0, 59, 1), 1);
        due(32, "anew", x.row(0, 1, 60), 1);
        due(32, "0 at first", x.element(0, 59), 0);
        x.keep(2, 0);
        due(32, "in a body's place", x.row(2, 3, 1), 1);
        due(32, "no body", x.taken(2, 0), -12);
    }

    private static void putAndElement() {
        NameRests x = new NameRests();
        x.body(0);
        long v = 0x8877665580C3A5F0L;
        long[] kept = {(byte) 0xF0, (short) 0xA5F0, 0x80C3A5F0, v, 1};
        for (int sort = 0; sort < 5; sort++) {
            x.row(0, sort, 2);
            due(33, "sort " + sort, x.put(0, 1, v), 1);
            due(34, "sort " + sort, x.element(0, 1), kept[sort]);
            due(34, "the other one", x.element(0, 0), 0);
            due(33, "sort " + sort, x.put(0, 1, 1L << 63), 1);
            due(34, "lowest bits of sort " + sort, x.element(0, 1), sort == 3 ? 1L << 63 : sort == 4 ? 1 : 0);
            due(33, "0", x.put(0, 1, 0), 1);
            due(34, "0", x.element(0, 1), 0);
        }
        x.keep(1, 0);
        int[][] bad = {{-1, 0, BAD}, {6, 0, BAD}, {2, 0, -11}, {2, -1, -11}, {1, 0, -12}, {1, -1, -12}, {0, -1, -13},
            {0, 2, -13}, {0, HIGH, -13}, {0, LOW, -13}};
        for (int[] b : bad) {
            due(33, "shelf " + b[0] + " place " + b[1], x.put(b[0], b[1], 7), b[2]);
            due(34, "shelf " + b[0] + " place " + b[1], x.element(b[0], b[1]), Long.MIN_VALUE);
        }
    }

    private static void shift() {
        NameRests x = new NameRests();
        x.body(0);
        x.row(0, 2, 5);
        for (int i = 0; i < 5; i++) x.put(0, i, i + 1);
        due(35, "onwards in the same one", x.shift(0, 0, 0, 1, 4), 4);
        int[] onwards = {1, 1, 2, 3, 4};
        for (int i = 0; i < 5; i++) due(35, "as they all were", x.element(0, i), onwards[i]);
        due(35, "back in the same one", x.shift(0, 2, 0, 0, 3), 3);
        int[] backwards = {2, 3, 4, 3, 4};
        for (int i = 0; i < 5; i++) due(35, "as they all were", x.element(0, i), backwards[i]);
        x.row(1, 2, 3);
        due(35, "to another one", x.shift(0, 3, 1, 1, 2), 2);
        int[] other = {0, 3, 4};
        for (int i = 0; i < 3; i++) due(35, "other", x.element(1, i), other[i]);
        due(35, "none", x.shift(0, 5, 1, 3, 0), 0);
        int[][] places = {{6, 0, 0}, {0, 4, 0}, {-1, 0, 0}, {0, -1, 0}, {0, 0, -1}, {0, 0, 4}, {2, 0, 4}, {0, 1, 3},
            {HIGH, 0, 1}, {0, HIGH, 1}, {1, 1, HIGH}, {LOW, 0, 1}, {0, 0, LOW}};
        for (int[] p : places) due(35, p[0] + ", " + p[1] + ", " + p[2], x.shift(0, p[0], 1, p[1], p[2]), -13);
        x.row(2, 3, 5);
        x.keep(3, 0);
        due(35, "unlike", x.shift(0, 0, 2, 0, 1), -12);
        due(35, "unlike ahead of place", x.shift(0, 0, 2, 9, 1), -12);
        due(35, "body", x.shift(3, 0, 0, 0, 1), -12);
        due(35, "body", x.shift(0, 0, 3, 0, 1), -12);
        due(35, "bodies", x.shift(3, 0, 3, 0, 0), -12);
        due(35, "nothing", x.shift(4, 0, 0, 0, 1), -11);
        due(35, "nothing", x.shift(0, 0, 4, 0, 1), -11);
        due(35, "nothing ahead of body", x.shift(3, 0, 4, 0, 1), -11);
        due(35, "bad", x.shift(6, 0, 4, 0, 1), BAD);
        due(35, "bad", x.shift(4, 0, -1, 0, 1), BAD);
        due(35, "nothing came", x.element(2, 0), 0);
    }

    private static void taken() {
        NameRests x = new NameRests();
        int[] under = {1, 1 | 2, 1 | 4, 1 | 4 | 8, 1 | 2 | 16, 1 | 4 | 8 | 32, 1 | 64, 1 | 64 | 128};
        for (int kind = 0; kind < 8; kind++) {
            x.body(kind);
            x.keep(kind % 6, kind);
            for (int k = 0; k < 8; k++) {
                due(36, kind + " for " + k, x.taken(kind % 6, k), (under[kind] >> k & 1) == 1 ? kind : -12);
            }
        }
        x.keep(0, -1);
        x.row(1, 0, 1);
        due(36, "nothing", x.taken(0, 0), -11);
        due(36, "row", x.taken(1, 0), -12);
        due(36, "bad", x.taken(6, 0), BAD);
        due(36, "bad", x.taken(-1, 0), BAD);
        due(36, "bad ahead of nothing", x.taken(0, 8), BAD);
        due(36, "bad", x.taken(1, -1), BAD);
    }

    private static void count() {
        NameRests x = with(0, 10, 0, 10, 0, 10);
        x.meet(1, 5);
        x.name(2, 0);
        x.name(1, 0);
        x.feed('a');
        x.mend(0, 0, 11);
        x.mend(0, 0, 12);
        x.mend(0, 0, 13);
        x.undo();
        x.body(5);
        x.act(0, 3, 1);
        int[] due = {3, 1, 2, 1, 2, 1, 10};
        for (int what = 0; what < due.length; what++) due(37, "what " + what, x.count(what), due[what]);
        due(37, "bad", x.count(7), BAD);
        due(37, "bad", x.count(-1), BAD);
        due(37, "bad", x.count(HIGH), BAD);
    }
}
