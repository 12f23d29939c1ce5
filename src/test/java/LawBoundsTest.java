import java.io.IOException;

/** The bounds of the tape and of the law's text: each at itself and next to it, byte by byte. */
public final class LawBoundsTest {
    private static final int BAD = Sentence.BAD, FULL = Sentence.FULL, LOW = Sentence.LOW, HIGH = Sentence.HIGH;
    private static final String DIGITS = "0123456789", LETTERS = "adfwin", OPENING = "(!-";
    private static final String STARTS = DIGITS + LETTERS;
    private static final String JOINS = "|&+-*/%", COMPARES = "<=>";
    /** The greatest and the least int, by numbers of four digits. */
    private static final String GREATEST = "(2147*1000*1000+483*1000+647)", LEAST = "(-2147*1000*1000-483*1000-648)";

    private LawBoundsTest() { }

    public static void main(String[] args) throws IOException {
        Sentence.read();
        bytes();
        tapeIsFull();
        longestTexts();
        linesOneOrMore();
        bytesBehindOperands();
        bytesBehindSigns();
        numbers();
        noBlanks();
        namesOfTheText();
        sixOpen();
        sixOpenAtOnce();
        fault();
        faultEmptiesTheTape();
        wraps();
        towardZero();
        byZero();
        oneOrZero();
        notZero();
        linesThatCount();
        noneCounts();
        ages();
        yearsDead();
        letters();
        withoutAText();
        Sentence.end();
    }

    private static void says(String words) {
        Sentence.says(words);
    }

    private static void due(String call, long got, long want) {
        Sentence.due(call, got, want);
    }

    private static int tell(NameRests x, String text) {
        return Sentence.tell(x, text);
    }

    /** What law() answers to a text on a new object. */
    private static int answer(String text) {
        return tell(new NameRests(), text);
    }

    private static void good(String text) {
        due("'" + text + "'", answer(text), 1);
    }

    private static void faulty(String text, int place) {
        due("'" + text + "'", answer(text), -100 - place);
    }

    // ---- the tape

    private static void bytes() {
        says("A byte (0 .. 255) comes to THE TAPE: how many it has. BAD, FULL (120).");
        for (int letter : Sentence.around(0, 255)) {
            NameRests x = new NameRests();
            boolean is = Sentence.within(letter, 0, 255);
            due("feed(" + letter + ")", x.feed(letter), is ? 1 : BAD);
            due("count(3)", x.count(3), is ? 1 : 0);
        }
    }

    private static void tapeIsFull() {
        says("THE LAW is a TEXT by THE TAPE (at most 120 bytes)");
        NameRests x = Sentence.crowd(1);
        x.name(0, 0);
        for (int k = 1; k <= 118; k++) due("feed", x.feed(k % 2 == 1 ? 'a' : '-'), k);
        due("the 119th", x.feed('a'), 119);
        due("the 120th", x.feed(';'), 120);
        due("the 121st", x.feed('1'), FULL);
        due("a wrong one", x.feed(256), BAD);
        due("a wrong one", x.feed(-1), BAD);
        due("count(3)", x.count(3), 120);
        due("the 121st did not come", x.law(), -220);
        due("it is empty", x.count(3), 0);
        due("there is room again", x.feed('1'), 1);
        due("law()", x.law(), 1);
    }

    private static void longestTexts() {
        says("THE LAW is a TEXT by THE TAPE (at most 120 bytes)");
        good("a+".repeat(59) + "a");
        good("a+".repeat(59) + "10");
        good("a;".repeat(59) + "10");
        good("!!!!!!a+".repeat(14) + "((2+30))");
        NameRests x = Sentence.crowd(1);
        x.name(0, 0);
        due("119 bytes", tell(x, "0*".repeat(59) + "0"), 1);
        due("not held", x.held(0, 5, 0), 0);
        due("5 is the 120th byte", tell(x, "0-".repeat(58) + "0+05"), 1);
        due("held", x.held(0, 5, 0), 1);
        due("a sign for each of 120 bytes", tell(x, "!0" + "-0".repeat(58) + "-1"), 1);
        due("1 less 1", x.held(0, 5, 0), 0);
        due("30 lines in 120 bytes, the last of which counts", tell(x, "0?0;".repeat(29) + "1--1"), 1);
        due("held", x.held(0, 5, 0), 1);
    }

    // ---- the text, byte by byte

    private static void linesOneOrMore() {
        says("LINES, one or more, parted by ; .");
        faulty("", 0);
        faulty(";", 0);
        good("1");
        good("1;1");
        faulty("1;", 2);
        faulty("1;;1", 2);
        faulty(";1", 0);
        good("1;".repeat(59) + "1");
    }

    /** Each of the 256 bytes behind a prefix: it ends a text, or a text goes on with it, or it is the fault. */
    private static void next(String prefix, String ends, String goesOn) {
        for (int b = 0; b < 256; b++) {
            String text = prefix + (char) b;
            if (ends.indexOf(b) >= 0) good(text);
            else faulty(text, goesOn.indexOf(b) >= 0 ? text.length() : prefix.length());
        }
    }

    private static void bytesBehindOperands() {
        says("LINE: E, or E ? E (what counts if the first is not 0). E = A { | A }. A = B { & B }. "
            + "B = S, or S < S, S = S, S > S. S = P { + P, - P }. P = O { * O, / O, % O }.");
        next("a", "", JOINS + COMPARES + "?;");
        next("(a)", "", JOINS + COMPARES + "?;");
        next("!a", "", JOINS + COMPARES + "?;");
        next("a|d", "", JOINS + COMPARES + "?;");
        next("a<d|f", "", JOINS + COMPARES + "?;");
        next("a<d&f", "", JOINS + COMPARES + "?;");
        for (char c : COMPARES.toCharArray()) next("a" + c + "d", "", JOINS + "?;");
        next("a<d+f", "", JOINS + "?;");
        next("a?d", "", JOINS + COMPARES + ";");
        next("a?d>f", "", JOINS + ";");
        next("a?d;f", "", JOINS + COMPARES + "?;");
        next("(a", ")", JOINS + COMPARES);
        next("(a=d", ")", JOINS);
        next("((a", "", JOINS + COMPARES + ")");
        next("!(a", ")", JOINS + COMPARES);
    }

    private static void bytesBehindSigns() {
        says("O = a number (1 to 4 digits), a NAME of the text, ! O, - O, ( E ).");
        next("", STARTS, OPENING);
        for (char c : (JOINS + COMPARES + "?;").toCharArray()) next("a" + c, STARTS, OPENING);
        next("!", STARTS, OPENING);
        next("-", STARTS, OPENING);
        next("(", "", STARTS + OPENING);
        next("a?d;", STARTS, OPENING);
        next("a?d;f?", STARTS, OPENING);
    }

    private static void numbers() {
        says("a number (1 to 4 digits)");
        next("1", DIGITS, JOINS + COMPARES + "?;");
        next("12", DIGITS, JOINS + COMPARES + "?;");
        next("123", DIGITS, JOINS + COMPARES + "?;");
        next("1234", "", JOINS + COMPARES + "?;");
        next("0000", "", JOINS + COMPARES + "?;");
        faulty("12345", 4);
        faulty("00000", 4);
        faulty("a+12345", 6);
        held("0=0", 1);
        held("0000=0", 1);
        held("0009=9", 1);
        held("9999=9999", 1);
        held("9999-9998=1", 1);
        held("9*1000+999=9999", 1);
    }

    private static void noBlanks() {
        says("No blanks.");
        for (char blank : new char[] {' ', '\t', '\n', '\r', 0, 160}) {
            faulty(blank + "a", 0);
            faulty("a" + blank, 1);
            faulty("a" + blank + "+d", 1);
            faulty("a+" + blank + "d", 2);
            faulty("(" + blank + "a)", 1);
            faulty("1" + blank + "2", 1);
        }
    }

    private static void namesOfTheText() {
        says("These: a the AGE (YEAR less BORN) of who knows");
        for (char c = 0; c < 256; c++) {
            if (STARTS.indexOf(c) >= 0) good(String.valueOf(c));
            else if (OPENING.indexOf(c) < 0) faulty(String.valueOf(c), 0);
        }
        for (char one : LETTERS.toCharArray()) {
            for (char other : STARTS.toCharArray()) faulty("" + one + other, 1);
        }
    }

    private static void sixOpen() {
        says("At most 6 of ( ! - ahead of an O are open at once.");
        for (char c : OPENING.toCharArray()) {
            String one = String.valueOf(c);
            String close = c == '(' ? ")" : "";
            for (int open = 0; open <= 12; open++) {
                String text = one.repeat(open) + "a" + close.repeat(open);
                if (open <= 6) good(text);
                else faulty(text, 6);
            }
            faulty(one.repeat(7), 6);
            faulty(one.repeat(6), 6);
        }
        next("!!!!!", STARTS, OPENING);
        next("!!!!!!", STARTS, "");
        next("-!-!-", STARTS, OPENING);
        next("-!-!-!", STARTS, "");
        next("(((((", "", STARTS + OPENING);
        next("((((((", "", STARTS);
        next("(!(-(", "", STARTS + OPENING);
        next("(!(-(-", "", STARTS);
        for (String ahead : new String[] {"a?", "a;", "a?d;", "a?d;f?", "a+", "(a)*"}) {
            next(ahead + "!!!!!", STARTS, OPENING);
            next(ahead + "!!!!!!", STARTS, "");
        }
        next("((((((a", "", JOINS + COMPARES + ")");
        next("(((((!a", "", JOINS + COMPARES + ")");
    }

    private static void sixOpenAtOnce() {
        says("At most 6 of ( ! - ahead of an O are open at once.");
        good("!!!!!!a+!!!!!!a");
        good("((((((a))))))*((((((d))))))");
        good("!!!!!!a;------a?((((((a))))))");
        good("(!!!!!a+-----d)");
        faulty("(!!!!!a+------d)", 13);
        good("(((((a)+(d)))))");
        good("(((((a)+((d))))))");
        faulty("(((((a)+(((d)))))))", 10);
        good("((((((a)+d)))))+(a)");
        next("((((((a+", "", STARTS);
        next("((((((a)+", "", STARTS + OPENING);
        next("((((((a))))))+", STARTS, OPENING);
        next("(((((-a-", "", STARTS + OPENING);
        good("a" + "-!!!!!!a".repeat(14) + "-1");
        good("a-------a");
        faulty("a--------a", 8);
    }

    private static void fault() {
        says("FAULT: the place (from 0) of the first byte with which no TEXT goes on; the length, if it ends too early.");
        faulty("", 0);
        faulty("q", 0);
        faulty("qq", 0);
        faulty("a?", 2);
        faulty("(a", 2);
        faulty("(a;", 2);
        faulty("a)", 1);
        faulty("a)q", 1);
        faulty("a+".repeat(59) + "aa", 119);
        faulty("a+".repeat(59) + "a+", 120);
        faulty("a+".repeat(58) + "a+q", 118);
        faulty("a+".repeat(59) + "q", 118);
        faulty("a+".repeat(59) + "a)", 119);
        faulty(")".repeat(120), 0);
        faulty("(".repeat(120), 6);
        faulty("1".repeat(120), 4);
    }

    private static void faultEmptiesTheTape() {
        says("A FAULT empties THE TAPE, THE LAW stays.");
        NameRests x = with80();
        due("without a text", x.held(0, 90, 1), 1);
        due("a fault", tell(x, "0+"), -102);
        due("the tape is empty", x.count(3), 0);
        due("still without a text", x.held(0, 90, 1), 1);
        due("an empty tape", x.law(), -100);
        due("still without a text", x.held(0, 90, 1), 1);
        due("a law", tell(x, "!i"), 1);
        due("the tape is empty", x.count(3), 0);
        due("by the law", x.held(0, 90, 1), 2);
        due("a fault", tell(x, "i?1;q"), -104);
        due("by the law", x.held(0, 90, 1), 2);
        due("an empty tape", x.law(), -100);
        due("by the law", x.held(0, 90, 1), 2);
        due("what is fed is no law yet", x.feed('0'), 1);
        due("by the law", x.held(0, 90, 1), 2);
        due("now it is", x.law(), 1);
        due("by that law", x.held(0, 90, 1), 0);
    }

    /** One who is named lives, another who met it, too; both are born in 0. */
    private static NameRests with80() {
        NameRests x = Sentence.crowd(2);
        x.name(0, 0);
        x.meet(1, 10);
        return x;
    }

    // ---- what it comes to

    /** Whether a living bearer's name is held by the text; it is of age 30, the name is 3. */
    private static void held(String text, int want) {
        NameRests x = Sentence.with(20, 90);
        x.name(0, 3);
        due("'" + text + "'", tell(x, text), 1);
        due("held by '" + text + "'", x.held(3, 50, 0), want);
    }

    private static void wraps() {
        says("Ints that wrap");
        held(GREATEST + ">0", 1);
        held(GREATEST + "+1<0", 1);
        held(GREATEST + "+1=" + LEAST, 1);
        held(LEAST + "<0", 1);
        held(LEAST + "-1>0", 1);
        held(LEAST + "-1=" + GREATEST, 1);
        held("-" + LEAST + "=" + LEAST, 1);
        held("-" + GREATEST + "-1=" + LEAST, 1);
        held(GREATEST + "*2=-2", 1);
        held(LEAST + "*2", 0);
        held(LEAST + "*-1=" + LEAST, 1);
        held("4096*4096*256", 0);
        held("4096*4096*128=" + LEAST, 1);
        held("!" + LEAST, 0);
        held(LEAST + "<" + GREATEST, 1);
        held(LEAST + "&1", 1);
    }

    private static void towardZero() {
        says("/ and % toward 0, by 0 they give 0");
        String[] texts = {
            "7/2=3", "-7/2=-3", "7/-2=-3", "-7/-2=3", "1/2=0", "-1/2=0", "7%3=1", "-7%3=-1", "7%-3=1", "-7%-3=-1", "6%3=0",
            "-6%3=0", "6/3=2", LEAST + "/1=" + LEAST, LEAST + "/-1=" + LEAST, LEAST + "%-1=0", LEAST + "%2=0",
            LEAST + "/" + LEAST + "=1", GREATEST + "%" + LEAST + "=" + GREATEST,
        };
        for (String text : texts) held(text, 1);
    }

    private static void byZero() {
        says("/ and % toward 0, by 0 they give 0");
        String[] zeros = {
            "7/0", "-7/0", "0/0", "7%0", "-7%0", "0%0", "7/d", "7%d", "7/(a-30)", "7%(a-30)", "7/0*5", LEAST + "/0",
            GREATEST + "%0", "7/0/0", "7%0%0", "1/(1/2)",
        };
        for (String text : zeros) {
            held(text, 0);
            held(text.endsWith("*5") ? text + "=0" : "(" + text + ")=0", 1);
        }
    }

    private static void oneOrZero() {
        says("| & < = > ! give 1, 0; all is worked out.");
        String[] ones = {
            "(5|0)=1", "(0|5)=1", "(5|7)=1", "(-1|0)=1", "(5&7)=1", "(-1&-1)=1", "(3<4)=1", "(-1<0)=1", "(4=4)=1", "(4>3)=1",
            "(0>-1)=1", "!0=1", "!!5=1", "!(1/0)=1",
        };
        String[] zeros = {
            "(0|0)=0", "(5&0)=0", "(0&5)=0", "(0&0)=0", "(4<4)=0", "(5<4)=0", "(4>4)=0", "(3>4)=0", "(3=4)=0", "(5=4)=0",
            "!1=0", "!5=0", "!-1=0", "!!0=0",
        };
        for (String text : ones) held(text, 1);
        for (String text : zeros) held(text, 1);
        held("1|1/0", 1);
        held("0&1/0", 0);
    }

    private static void notZero() {
        says("Not 0: who knows HOLDS it.");
        for (String text : new String[] {"1", "-1", "2", "-2", "256", "4096*4096", "4096*4096*16", LEAST, GREATEST}) held(text, 1);
        for (String text : new String[] {"0", "-0", "0000", "1-1", "4096*4096*4096"}) held(text, 0);
    }

    private static void linesThatCount() {
        says("The first LINE without a first E, or whose first E is not 0, counts; none: 0.");
        Object[][] texts = {
            {"1", 1}, {"0", 0}, {"0;1", 0}, {"1;0", 1}, {"1?0;1", 0}, {"1?1;0", 1}, {"0?1;0", 0}, {"0?0;1", 1}, {"-1?1;0", 1},
            {"5?5", 1}, {"0?1;0?1;1?1", 1}, {"0?1;0?1;1?0;1", 0}, {"0?1;0;1", 0}, {"1?0", 0}, {"-1", 1}, {"2?-5", 1},
        };
        for (Object[] t : texts) held((String) t[0], (Integer) t[1]);
    }

    private static void noneCounts() {
        says("A LINE whose first E is 0, and none behind it: not HELD.");
        held("0?1", 0);
        held("0?9;0?9", 0);
        held("0?9;0?9;0?9;0?9;0?9;0?9;0?9", 0);
        held("a-30?1", 0);
        held("a-29?1", 1);
        NameRests famed = Sentence.crowd(1);
        famed.name(0, 0);
        famed.fame(0, 1);
        tell(famed, "0?1");
        due("no holders", famed.held(0, 50, 1), 0);
        due("fame is left", famed.held(0, 50, 0), 1);
    }

    private static void ages() {
        says("a the AGE (YEAR less BORN) of who knows");
        NameRests x = Sentence.with(0, 100, 99, 100);
        x.name(0, 0);
        x.name(1, 1);
        due("law", tell(x, "a=0"), 1);
        due("0 in the year of one's birth", x.held(0, 0, 0), 1);
        due("not in the next", x.held(0, 1, 0), 0);
        due("0 in the last year", x.held(1, 99, 0), 1);
        due("law", tell(x, "a=99"), 1);
        due("not 99 in 98", x.held(0, 98, 0), 0);
        due("99 in 99", x.held(0, 99, 0), 1);
        NameRests y = Sentence.with(0, 100, 10, 100);
        y.name(0, 0);
        y.meet(1, 10);
        tell(y, "a=40");
        due("of who knows, not of the bearer", y.held(0, 50, 1), 2);
        due("of who knows, not of the bearer", y.held(0, 40, 1), 1);
    }

    private static void yearsDead() {
        says("d how many YEARS ago the bearer DIED (0, if it LIVES or does so till then)");
        NameRests x = Sentence.with(10, 50, 0, 100);
        x.name(0, 0);
        x.meet(1, 20);
        tell(x, "d=0");
        int[][] zeros = {{20, 3}, {49, 3}, {50, 2}, {51, 0}, {99, 0}};
        for (int[] z : zeros) due("d=0 in " + z[0], x.held(0, z[0], 1), z[1]);
        tell(x, "d=1");
        int[][] ones = {{49, 0}, {50, 0}, {51, 2}, {52, 0}};
        for (int[] o : ones) due("d=1 in " + o[0], x.held(0, o[0], 1), o[1]);
        tell(x, "d=49");
        due("d=49 in 98", x.held(0, 98, 1), 0);
        due("d=49 in 99", x.held(0, 99, 1), 2);
        says("d is 0 at least.");
        tell(x, "d<0");
        for (int year : new int[] {10, 20, 49, 50, 51, 99}) due("d<0 in " + year, x.held(0, year, 1), 0);
        x.mend(0, 0, 100);
        tell(x, "d");
        due("one who dies in 100", x.held(0, 99, 1), 0);
        x.mend(0, 0, 99);
        due("one who dies in 99", x.held(0, 99, 1), 0);
        x.mend(0, 0, 98);
        due("one who dies in 98", x.held(0, 99, 1), 2);
    }

    private static void letters() {
        says("f FAME, w WORTH of the NAME, i 1 if it is the bearer itself, n the NAME.");
        for (int name : new int[] {0, 1, 10, 11}) {
            NameRests x = Sentence.crowd(2);
            x.name(0, name);
            x.meet(1, 10);
            tell(x, "n=" + name);
            due("n is " + name, x.held(name, 50, 1), 3);
            tell(x, "w=1&f=0");
            due("w is 1 and f is 0 at first", x.held(name, 50, 1), 3);
            for (int worth : new int[] {0, 9}) {
                x.mend(name, 1, worth);
                tell(x, "w=" + worth);
                due("w is " + worth, x.held(name, 50, 1), 3);
            }
            x.fame(name, 1);
            tell(x, "f=1&w=9");
            due("f is 1", x.held(name, 50, 1), 3);
            tell(x, "i=1");
            due("i is 1 for the bearer", x.held(name, 50, 1), 1);
            tell(x, "i=0");
            due("i is 0 for the other", x.held(name, 50, 1), 2);
        }
    }

    private static void withoutAText() {
        says("Without a text: if a is below 80, or i is 1.");
        NameRests x = Sentence.with(0, 100, 10, 100);
        x.name(0, 0);
        x.meet(1, 20);
        int[][] holders = {{79, 3}, {80, 3}, {81, 3}, {89, 3}, {90, 1}, {91, 1}, {99, 1}};
        for (int[] h : holders) due("held(0, " + h[0] + ", 1)", x.held(0, h[0], 1), h[1]);
        x.mend(0, 0, 89);
        int[][] dead = {{88, 3}, {89, 2}, {90, 0}};
        for (int[] h : dead) due("held(0, " + h[0] + ", 1)", x.held(0, h[0], 1), h[1]);
        due("till", x.held(0, 0, 2), 90);
        for (int letter : new int[] {LOW, HIGH}) due("feed(" + letter + ")", x.feed(letter), BAD);
    }
}
