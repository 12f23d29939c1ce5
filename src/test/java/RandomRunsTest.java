import java.util.Random;

/** Random runs of calls, told by fixed seeds: the class must answer as the plain model does. */
public final class RandomRunsTest {
    private static final String[] LAWS = {
        "0", "1", "i", "!i", "a<80|i", "a<60&d<30|i", "i?1;d>10?0;a<50", "f?0;w>3", "n%2=0|i", "!i&a<90",
        "a/d", "d?a%d", "-a+40>0", "(a-20)*(a-60)<0|i&!f", "w*10>d&a<70", "!(i|f)?n<6;1", "i|d<5",
    };
    private static int wrong = 0;

    private RandomRunsTest() { }

    public static void main(String[] args) {
        int runs = args.length > 0 ? Integer.parseInt(args[0]) : 400;
        for (int seed = 1; seed <= runs && wrong < 20; seed++) {
            oneRun(seed);
        }
        for (int seed = 1; seed <= 20 * runs && wrong < 20; seed++) {
            oneText(seed);
        }
        System.out.println(wrong == 0 ? "all random runs agree" : wrong + " answers differ");
        if (wrong != 0) System.exit(1);
    }

    private static void oneRun(int seed) {
        Random r = new Random(seed);
        NameRests x = new NameRests();
        PlainRests y = new PlainRests();
        int crowd = seed % 4;
        StringBuilder told = new StringBuilder();
        if (crowd > 0) settle(r, x, y, told, 3 * crowd + r.nextInt(4), 5 * crowd + r.nextInt(3));
        int calls = 400 - (crowd > 0 ? 60 : 0);
        for (int k = 0; k < calls && wrong < 20; k++) oneCall(r, x, y, seed, told);
    }

    private static void settle(Random r, NameRests x, PlainRests y, StringBuilder told, int people, int meetings) {
        for (int p = 0; p < people; p++) {
            int born = r.nextInt(3) == 0 ? 10 * r.nextInt(6) : r.nextInt(60);
            int dies = born + 1 + r.nextInt(100 - born);
            due(0, told, "person(" + born + ", " + dies + ")", x.person(born, dies), y.person(born, dies));
            if (r.nextInt(3) > 0) {
                int v = r.nextInt(5);
                due(0, told, "name(" + p + ", " + v + ")", x.name(p, v), y.name(p, v));
            }
        }
        for (int m = 0; m < 4 * meetings; m++) {
            int ab = 100 * r.nextInt(people) + r.nextInt(people);
            int year = r.nextInt(100);
            due(0, told, "meet(" + ab + ", " + year + ")", x.meet(ab, year), y.meet(ab, year));
        }
    }

    private static int any(Random r, int most) {
        return r.nextInt(40) == 0 ? odd(r) : r.nextInt(most + 1) - (r.nextInt(12) == 0 ? 1 : 0);
    }

    private static int odd(Random r) {
        int[] odd = {Integer.MIN_VALUE, Integer.MAX_VALUE, -1, -2, 12, 13, 16, 60, 61, 99, 100, 101, 1 << 30, -1 << 30};
        return odd[r.nextInt(odd.length)];
    }

    private static void oneCall(Random r, NameRests x, PlainRests y, int run, StringBuilder told) {
        int a, b, c;
        switch (r.nextInt(40)) {
            case 0:
            case 1:
                a = any(r, 99); b = r.nextInt(4) == 0 ? any(r, 101) : Math.min(100, Math.max(0, a) + 1 + r.nextInt(90));
                due(run, told, "person(" + a + ", " + b + ")", x.person(a, b), y.person(a, b));
                break;
            case 2:
                a = any(r, 5); b = any(r, 8); c = any(r, 12);
                due(run, told, "people(" + a + ", " + b + ", " + c + ")", x.people(a, b, c), y.people(a, b, c));
                break;
            case 3:
            case 4:
                a = r.nextInt(20) == 0 ? odd(r) : 100 * r.nextInt(12) + r.nextInt(12); b = any(r, 99);
                due(run, told, "meet(" + a + ", " + b + ")", x.meet(a, b), y.meet(a, b));
                break;
            case 5:
                a = any(r, 2);
                due(run, told, "hearing(" + a + ")", x.hearing(a), y.hearing(a));
                break;
            case 6:
            case 7:
                a = any(r, 11); b = r.nextBoolean() ? any(r, 4) : any(r, 11);
                due(run, told, "name(" + a + ", " + b + ")", x.name(a, b), y.name(a, b));
                break;
            case 8:
                a = any(r, 11); b = r.nextInt(3) == 0 ? any(r, 2) : 0;
                due(run, told, "fame(" + a + ", " + b + ")", x.fame(a, b), y.fame(a, b));
                break;
            case 9:
            case 10:
            case 11:
                a = any(r, 11); b = any(r, 2); c = b == 1 ? any(r, 10) : any(r, 101);
                due(run, told, "mend(" + a + ", " + b + ", " + c + ")", x.mend(a, b, c), y.mend(a, b, c));
                break;
            case 12:
                a = any(r, 16); b = r.nextInt(3) * 10 + any(r, 4);
                due(run, told, "of(" + a + ", " + b + ")", x.of(a, b), y.of(a, b));
                break;
            case 13:
                a = any(r, 255);
                if (r.nextInt(4) == 0) due(run, told, "feed(" + a + ")", x.feed(a), y.feed(a));
                if (r.nextBoolean()) tellLaw(run, told, LAWS[r.nextInt(LAWS.length)], x, y);
                break;
            case 14:
                a = any(r, 11); b = any(r, 99);
                due(run, told, "knows(" + a + ", " + b + ")", x.knows(a, b), y.knows(a, b));
                break;
            case 15:
            case 16:
                a = any(r, r.nextInt(2) == 0 ? 5 : 11); b = any(r, 99); c = any(r, 3);
                due(run, told, "held(" + a + ", " + b + ", " + c + ")", x.held(a, b, c), y.held(a, b, c));
                break;
            case 17:
                a = any(r, 99);
                due(run, told, "free(" + a + ")", x.free(a), y.free(a));
                break;
            case 18:
                a = any(r, 2);
                if (r.nextInt(6) == 0) due(run, told, "most(" + a + ")", x.most(a), y.most(a));
                break;
            case 19:
                due(run, told, "judge()", x.judge(), y.judge());
                break;
            case 20:
                a = any(r, 11); b = any(r, 3);
                due(run, told, "give(" + a + ", " + b + ")", x.give(a, b), y.give(a, b));
                break;
            case 21:
                a = any(r, 3); b = any(r, 11);
                if (r.nextInt(4) == 0) due(run, told, "run(" + a + ", " + b + ")", x.run(a, b), y.run(a, b));
                break;
            case 22:
                a = any(r, 3); b = any(r, 3);
                if (r.nextInt(4) == 0) due(run, told, "used(" + a + ", " + b + ")", x.used(a, b), y.used(a, b));
                break;
            case 23:
                a = any(r, r.nextInt(2) == 0 ? 4 : 11); b = any(r, 99);
                if (y.meetings.size() < 11 || r.nextInt(20) == 0) {
                    due(run, told, "apart(" + a + ", " + b + ")", x.apart(a, b), y.apart(a, b));
                }
                break;
            case 24:
                a = any(r, 11); b = any(r, 99);
                due(run, told, "freed(" + a + ", " + b + ")", x.freed(a, b), y.freed(a, b));
                break;
            case 25:
                a = any(r, 11);
                due(run, told, "never(" + a + ")", x.never(a), y.never(a));
                break;
            case 26:
                a = r.nextInt(); b = any(r, 21); c = any(r, 2);
                if (r.nextInt(8) == 0) due(run, told, "needs(" + a + ", " + b + ", " + c + ")", x.needs(a, b, c), y.needs(a, b, c));
                break;
            case 27:
                if (r.nextInt(3) == 0) due(run, told, "image()", x.image(), y.image());
                else due(run, told, "back()", x.back(), y.back());
                break;
            case 28:
                due(run, told, "undo()", x.undo(), y.undo());
                break;
            case 29:
                due(run, told, "redo()", x.redo(), y.redo());
                break;
            case 30:
                a = any(r, 8);
                due(run, told, "body(" + a + ")", x.body(a), y.body(a));
                break;
            case 31:
                a = any(r, Math.max(1, y.bodies.size())); b = any(r, 4); c = r.nextBoolean() ? r.nextInt() : r.nextInt(100);
                due(run, told, "act(" + a + ", " + b + ", " + c + ")", x.act(a, b, c), y.act(a, b, c));
                for (int i = -1; i < 12; i++) due(run, told, "trace(" + i + ")", x.trace(i), y.trace(i));
                break;
            default:
                oneShelfCall(r, x, y, run, told);
        }
        for (int what = -1; what <= 7; what++) due(run, told, "count(" + what + ")", x.count(what), y.count(what));
    }

    private static void oneShelfCall(Random r, NameRests x, PlainRests y, int run, StringBuilder told) {
        int a = any(r, 5), b = any(r, 20), c = any(r, 5), d = any(r, 20), e = any(r, 20);
        switch (r.nextInt(9)) {
            case 0:
                b = any(r, Math.max(1, y.bodies.size())) - r.nextInt(2);
                if (r.nextInt(2) == 0) due(run, told, "keep(" + a + ", " + b + ")", x.keep(a, b), y.keep(a, b));
                break;
            case 1:
                c = r.nextInt(3) == 0 ? 0 : c;
                d = any(r, 61);
                due(run, told, "row(" + a + ", " + c + ", " + d + ")", x.row(a, c, d), y.row(a, c, d));
                break;
            case 2:
            case 3:
                long v = r.nextBoolean() ? r.nextLong() : r.nextInt(300) - 150;
                due(run, told, "put(" + a + ", " + b + ", " + v + ")", x.put(a, b, v), y.put(a, b, v));
                break;
            case 4:
                for (int k = 0; k < 12; k++) {
                    int born = r.nextInt(99), next = k % 3 == 0 ? born : k % 3 == 1 ? r.nextInt(101) : r.nextInt(13) - 1;
                    due(run, told, "put(" + a + ", " + k + ", " + next + ")", x.put(a, k, next), y.put(a, k, next));
                }
                break;
            case 5:
                due(run, told, "shift(" + a + ", " + b + ", " + c + ", " + d + ", " + e + ")",
                    x.shift(a, b, c, d, e), y.shift(a, b, c, d, e));
                for (int i = -1; i <= 60; i++) due(run, told, "element(" + c + ", " + i + ")", x.element(c, i), y.element(c, i));
                break;
            case 6:
                d = any(r, 8);
                due(run, told, "taken(" + a + ", " + d + ")", x.taken(a, d), y.taken(a, d));
                break;
            default:
                due(run, told, "element(" + a + ", " + b + ")", x.element(a, b), y.element(a, b));
        }
    }

    private static void tellLaw(int run, StringBuilder told, String text, NameRests x, PlainRests y) {
        for (int i = 0; i < text.length(); i++) {
            int c = text.charAt(i);
            due(run, told, "feed(" + c + ")", x.feed(c), y.feed(c));
        }
        due(run, told, "law()", x.law(), y.law());
    }

    /** A text made by the grammar, often with one byte gone wrong: its fault, and what holds by it. */
    private static void oneText(int seed) {
        Random r = new Random(seed);
        StringBuilder text = new StringBuilder();
        int lines = 1 + r.nextInt(3);
        for (int k = 0; k < lines; k++) {
            if (k > 0) text.append(';');
            text.append(anyE(r, 0));
            if (r.nextBoolean()) text.append('?').append(anyE(r, 0));
        }
        if (r.nextInt(3) == 0) spoil(r, text);
        if (text.length() > 120) text.setLength(120);
        NameRests x = new NameRests();
        PlainRests y = new PlainRests();
        StringBuilder told = new StringBuilder();
        settle(r, x, y, told, 6, 8);
        due(seed, told, "hearing(1)", x.hearing(1), y.hearing(1));
        due(seed, told, "mend(1, 1, 7)", x.mend(1, 1, 7), y.mend(1, 1, 7));
        due(seed, told, "fame(2, 1)", x.fame(2, 1), y.fame(2, 1));
        tellLaw(seed, told, text.toString(), x, y);
        for (int year = 9; year < 100; year += 30) {
            for (int name = 0; name < 5; name++) {
                due(seed, told, "held(" + name + ", " + year + ", 1)", x.held(name, year, 1), y.held(name, year, 1));
            }
        }
    }

    private static void spoil(Random r, StringBuilder text) {
        String bytes = "0123456789adfwin()!-+*/%<=>&|?;; bx~\u0000\u00ff";
        int at = r.nextInt(text.length() + 1);
        char c = bytes.charAt(r.nextInt(bytes.length()));
        switch (r.nextInt(4)) {
            case 0: text.insert(at, c); break;
            case 1: if (at < text.length()) text.setCharAt(at, c); break;
            case 2: if (at < text.length()) text.deleteCharAt(at); break;
            default: text.setLength(at);
        }
    }

    private static String anyE(Random r, int open) {
        StringBuilder e = new StringBuilder(anyO(r, open));
        int joins = r.nextInt(open > 1 ? 2 : 4);
        boolean compared = false;
        for (int k = 0; k < joins; k++) {
            String signs = compared ? "+-*/%" : "+-*/%<=>";
            char sign = r.nextInt(4) == 0 ? "&|".charAt(r.nextInt(2)) : signs.charAt(r.nextInt(signs.length()));
            compared = "&|".indexOf(sign) < 0 && (compared || "<=>".indexOf(sign) >= 0);
            e.append(sign).append(anyO(r, open));
        }
        return e.toString();
    }

    private static String anyO(Random r, int open) {
        switch (open >= 7 ? r.nextInt(3) : r.nextInt(6)) {
            case 0: return Integer.toString(r.nextInt(r.nextInt(3) == 0 ? 10000 : 10));
            case 1:
            case 2: return "adfwin".substring(r.nextInt(6)).substring(0, 1);
            case 3: return "!" + anyO(r, open + 1);
            case 4: return "-" + anyO(r, open + 1);
            default: return "(" + anyE(r, open + 1) + ")";
        }
    }

    private static void due(int run, StringBuilder told, String call, long got, long want) {
        told.append(call).append(' ').append(got).append('\n');
        if (got == want) return;
        wrong++;
        System.out.println("run " + run + ": " + call + " answered " + got + ", the model says " + want);
        if (wrong == 1) System.out.println(told);
    }
}
