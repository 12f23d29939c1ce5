import java.io.IOException;
import java.util.ArrayList;
import java.util.HashMap;
import java.util.List;
import java.util.Map;
import java.util.regex.Matcher;
import java.util.regex.Pattern;

/** Kinds and bodies of acts as the document writes them out: its own lines are read and reckoned here. */
public final class BodiesTest {
    private static final int BAD = Sentence.BAD, LOW = Sentence.LOW, HIGH = Sentence.HIGH;
    private static final int KINDS = 8, BODIES_TOLD = 14;
    private static final List<String> ACTS = List.of("gives", "holds", "knows", "tells");
    private static final List<String> kinds = new ArrayList<>();
    private static final Map<String, String> above = new HashMap<>();
    /** By kind and act: the body's number and its line. */
    private static final Map<String, String> lines = new HashMap<>();
    private static final Map<String, Integer> numbers = new HashMap<>();
    private static final List<Integer> ran = new ArrayList<>();

    private BodiesTest() { }

    public static void main(String[] args) throws IOException {
        Sentence.read();
        readKinds();
        readBodies();
        everyAct();
        everyKindTaken();
        Sentence.end();
    }

    private static void readKinds() {
        Sentence.says("of KINDS: 0 GIVER; 1 FIRST under GIVER; 2 SOON under GIVER; 3 WISH under SOON; 4 BLIND under FIRST; "
            + "5 BEST under WISH; 6 TOLD under GIVER; 7 HERMIT under TOLD.");
        Matcher kind = Pattern.compile("(\\d) ([A-Z]+)(?: under ([A-Z]+))?[;.]").matcher(Sentence.words());
        while (kind.find()) {
            Sentence.due("number of " + kind.group(2), Integer.parseInt(kind.group(1)), kinds.size());
            kinds.add(kind.group(2));
            above.put(kind.group(2), kind.group(3));
        }
        Sentence.due("kinds", kinds.size(), KINDS);
    }

    private static void readBodies() {
        Sentence.says("0 gives, 1 holds, 2 knows, 3 tells; n its number. BODIES of acts:");
        Sentence.says("GIVES (an interface of GIVER): 1 gives: x + n. GIVER: 10 holds: gives(x) * 2. 11 knows: x ^ n. "
            + "TELLS (of GIVER): 2 tells: holds(x) - knows(1). FIRST: 20 gives: super.gives(x) + 3. "
            + "SOON: 30 holds: -super.holds(x). WISH: 40 knows: super.knows(x) * 3. 41 holds: super.holds(x + 1). "
            + "BLIND: 50 tells: super.tells(x) ^ 5. BEST: 60 knows: super.knows(x) - gives(2). "
            + "61 tells: super.tells(x) + 1. TOLD: 70 gives: super.gives(x) * 2. "
            + "HERMIT: 80 holds: super.holds(x) + knows(2). 81 gives: super.gives(x) - 1.");
        Matcher part = Pattern.compile("([A-Z]+)(?: \\([^)]*of ([A-Z]+)\\))?: (?=\\d)|(\\d+) (\\w+): (.+?)\\.(?= |$)")
            .matcher(Sentence.words());
        String kind = "";
        while (part.find()) {
            if (part.group(1) != null) {
                kind = part.group(2) == null ? part.group(1) : part.group(2);
            } else {
                numbers.put(kind + " " + part.group(4), Integer.parseInt(part.group(3)));
                lines.put(kind + " " + part.group(4), part.group(5));
            }
        }
        Sentence.due("bodies", lines.size(), BODIES_TOLD);
    }

    // ---- the document's lines, reckoned

    /** The body of that kind or of the next one above that has one. */
    private static int perform(String from, String act, int actor, int x) {
        String kind = from;
        while (!lines.containsKey(kind + " " + act)) kind = above.get(kind);
        ran.add(numbers.get(kind + " " + act));
        return new Line(lines.get(kind + " " + act), kind, actor, x).value();
    }

    /** One line of a body: a part, or two parts with a sign between them. */
    private static final class Line {
        private final String text;
        private final String kind;
        private final int actor;
        private final int x;
        private int at = 0;

        Line(String text, String kind, int actor, int x) {
            this.text = text;
            this.kind = kind;
            this.actor = actor;
            this.x = x;
        }

        int value() {
            int left = part();
            if (at >= text.length() || text.charAt(at) == ')') return left;
            char sign = text.charAt(at + 1);
            at += 3;
            int right = part();
            switch (sign) {
                case '+': return left + right;
                case '-': return left - right;
                case '*': return left * right;
                case '^': return left ^ right;
                default: throw new IllegalStateException(text);
            }
        }

        private int part() {
            if (text.charAt(at) == '-') {
                at++;
                return -part();
            }
            Matcher word = Pattern.compile("(super\\.)?(\\w+)(\\()?").matcher(text);
            if (!word.find(at) || word.start() != at) throw new IllegalStateException(text);
            at = word.end();
            if (word.group(3) == null) return single(word.group(2));
            int told = value();
            at++;
            String from = word.group(1) == null ? kinds.get(kindOf(actor)) : above.get(kind);
            return perform(from, word.group(2), actor, told);
        }

        private int single(String word) {
            if (word.equals("x")) return x;
            return word.equals("n") ? actor : Integer.parseInt(word);
        }
    }

    // ---- the class beside them

    /** Of each kind there are bodies with low and with high numbers. */
    private static int kindOf(int body) {
        return (body * 3 + body / 8) % KINDS;
    }

    private static NameRests fifty() {
        NameRests x = new NameRests();
        for (int body = 0; body < 50; body++) Sentence.due("body", x.body(kindOf(body)), body);
        return x;
    }

    private static void everyAct() {
        Sentence.says("gives(..) and so on: the body of its own KIND, or of the next KIND above that has one; super: from the "
            + "KIND above the body's on.");
        for (int x : new int[] {0, 1, 2, 5, -1, -7, 49, 1000, 65536, 0x3fffffff, 0x40000000, HIGH, LOW, LOW + 1}) {
            for (int act = 0; act < ACTS.size(); act++) {
                NameRests rests = fifty();
                for (int body = 0; body < 50; body++) oneAct(rests, body, act, x);
            }
        }
    }

    private static void oneAct(NameRests rests, int body, int act, int x) {
        ran.clear();
        String call = kinds.get(kindOf(body)) + ": act(" + body + ", " + act + ", " + x + ")";
        Sentence.due(call, rests.act(body, act, x), perform(kinds.get(kindOf(body)), ACTS.get(act), body, x));
        Sentence.due("count(6) behind " + call, rests.count(6), ran.size());
        int i = body % (ran.size() + 1);
        Sentence.due("trace(" + i + ") behind " + call, rests.trace(i), i < ran.size() ? ran.get(i) : BAD);
        Sentence.due("trace(0) behind " + call, rests.trace(0), ran.get(0));
    }

    private static void everyKindTaken() {
        Sentence.promises(36, "What a SHELF holds, taken for a BODY of KIND k (0 .. 7), or under it: its KIND.");
        for (int kind = 0; kind < KINDS; kind++) {
            NameRests x = new NameRests();
            x.keep(3, x.body(kind));
            for (int k = 0; k < KINDS; k++) {
                Sentence.due(kinds.get(kind) + " taken for " + kinds.get(k), x.taken(3, k), isUnder(kind, k) ? kind : -12);
            }
        }
    }

    private static boolean isUnder(int kind, int top) {
        for (String at = kinds.get(kind); at != null; at = above.get(at)) {
            if (at.equals(kinds.get(top))) return true;
        }
        return false;
    }
}
