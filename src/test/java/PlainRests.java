import java.util.ArrayList;
import java.util.HashMap;
import java.util.List;
import java.util.Map;

/** The document's words one by one, by brute force and with the library: the random runs compare with it. */
final class PlainRests {
    static final int BAD = -1, NOT = -2, FULL = -3, STATE = -5, VOID = -2000000000;

    static final class Person {
        int born, dies, name = -1;
    }

    static final class Meeting {
        int one, other, year, number;
    }

    static final class Change {
        int what, number, before, after;
    }

    final List<Person> persons = new ArrayList<>();
    final List<Meeting> meetings = new ArrayList<>();
    final int[] worth = new int[12];
    final int[] fame = new int[12];
    int hears;
    String tape = "";
    String text = null;
    final List<Change> done = new ArrayList<>();
    final List<Change> undone = new ArrayList<>();
    List<Integer> kept = null;
    final List<Giver> bodies = new ArrayList<>();
    final List<Integer> ran = new ArrayList<>();
    final Object[] shelves = new Object[6];

    PlainRests() {
        java.util.Arrays.fill(worth, 1);
    }

    // ---- people, meetings, names

    int person(int born, int dies) {
        return come(born, dies, -1);
    }

    int come(int born, int dies, int name) {
        if (born < 0 || born > 99 || dies <= born || dies > 100 || name < -1 || name > 11) return BAD;
        if (persons.size() == 12) return FULL;
        Person p = new Person();
        p.born = born;
        p.dies = dies;
        p.name = name;
        persons.add(p);
        return persons.size() - 1;
    }

    int people(int shelf, int i, int n) {
        if (shelf < 0 || shelf > 5 || n < 1 || n > 12) return BAD;
        if (shelves[shelf] == null) return 0;
        if (!(shelves[shelf] instanceof byte[])) return -12;
        byte[] row = (byte[]) shelves[shelf];
        int came = 0;
        for (long at = i; came < n; at += 3) {
            if (at < 0 || at + 2 >= row.length) break;
            int k = (int) at;
            if (come(row[k], row[k + 1], row[k + 2]) < 0) break;
            came++;
        }
        return came;
    }

    boolean isPerson(int p) {
        return p >= 0 && p < persons.size();
    }

    boolean lives(int p, int year) {
        return persons.get(p).born <= year && year <= persons.get(p).dies - 1;
    }

    int meet(int ab, int year) {
        if (ab < 0) return BAD;
        int a = ab / 100, b = ab % 100;
        if (!isPerson(a) || !isPerson(b) || a == b || year < 0 || year > 99) return BAD;
        if (!lives(a, year) || !lives(b, year)) return BAD;
        if (meetings.size() == 16) return FULL;
        Meeting m = new Meeting();
        m.one = a;
        m.other = b;
        m.year = year;
        m.number = meetings.size();
        meetings.add(m);
        return m.number;
    }

    int hearing(int v) {
        if (v < 0 || v > 1) return BAD;
        int was = hears;
        hears = v;
        return was;
    }

    int name(int p, int v) {
        if (!isPerson(p) || v < -1 || v > 11) return VOID;
        int was = persons.get(p).name;
        persons.get(p).name = v;
        return was;
    }

    int fame(int name, int v) {
        if (name < 0 || name > 11 || v < 0 || v > 1) return BAD;
        int was = fame[name];
        fame[name] = v;
        return was;
    }

    int mend(int number, int what, int v) {
        int was;
        if (what == 0) {
            if (!isPerson(number) || v <= persons.get(number).born || v > 100) return BAD;
            was = persons.get(number).dies;
        } else if (what == 1) {
            if (number < 0 || number > 11 || v < 0 || v > 9) return BAD;
            was = worth[number];
        } else {
            return BAD;
        }
        if (was == v) return was;
        Change c = new Change();
        c.what = what;
        c.number = number;
        c.before = was;
        c.after = v;
        undone.clear();
        done.add(c);
        if (done.size() > 40) done.remove(0);
        set(c, v);
        return was;
    }

    void set(Change c, int v) {
        if (c.what == 0) persons.get(c.number).dies = v;
        else worth[c.number] = v;
    }

    List<Integer> order() {
        List<Integer> order = new ArrayList<>();
        for (int year = 0; year < 100; year++) {
            for (int p = 0; p < persons.size(); p++) {
                if (persons.get(p).born == year) order.add(p);
            }
        }
        return order;
    }

    boolean counts(Meeting m) {
        return lives(m.one, m.year) && lives(m.other, m.year);
    }

    int of(int number, int what) {
        if (what >= 0 && what <= 3 && isPerson(number)) {
            Person p = persons.get(number);
            return what == 0 ? p.born : what == 1 ? p.dies : what == 2 ? p.name : order().indexOf(number);
        }
        if (what >= 10 && what <= 12 && number >= 0 && number <= 11) {
            return what == 10 ? worth[number] : what == 11 ? fame[number] : bearers(number);
        }
        if (what >= 20 && what <= 22 && number >= 0 && number < meetings.size()) {
            Meeting m = meetings.get(number);
            return what == 20 ? 100 * m.one + m.other : what == 21 ? m.year : counts(m) ? 1 : 0;
        }
        return VOID;
    }

    int bearers(int name) {
        int bits = 0;
        for (int p = 0; p < persons.size(); p++) {
            if (persons.get(p).name == name) bits += 1 << p;
        }
        return bits;
    }

    int feed(int letter) {
        if (letter < 0 || letter > 255) return BAD;
        if (tape.length() == 120) return FULL;
        tape += (char) letter;
        return tape.length();
    }

    int law() {
        String told = tape;
        tape = "";
        int fault = PlainLaw.fault(told);
        if (fault >= 0) return -100 - fault;
        text = told;
        return 1;
    }

    // ---- who knows, which are held

    int[] knowing(int year, int without) {
        int[] known = new int[persons.size()];
        for (int p = 0; p < known.length; p++) known[p] = 1 << p;
        for (int y = 0; y <= year; y++) {
            for (Meeting m : meetings) {
                if (m.year != y || !counts(m) || (without >> m.number & 1) == 1) continue;
                int one = known[m.one], other = known[m.other];
                known[m.one] |= 1 << m.other | (hears == 1 ? other : 0);
                known[m.other] |= 1 << m.one | (hears == 1 ? one : 0);
            }
        }
        return known;
    }

    final Map<String, Boolean> lawCache = new HashMap<>();

    boolean lawHolds(int p, int bearer, int name, int year) {
        int a = year - persons.get(p).born;
        int d = Math.max(0, year - persons.get(bearer).dies);
        int i = p == bearer ? 1 : 0;
        if (text == null) return a < 80 || i == 1;
        int[] letters = {a, d, fame[name], worth[name], i, name};
        String key = text + java.util.Arrays.toString(letters);
        return lawCache.computeIfAbsent(key, k -> PlainLaw.value(text, letters) != 0);
    }

    /** names: of each person, -1 for those who are no bearers in this question. */
    int holders(int name, int year, int[] names, int without) {
        int[] known = knowing(year, without);
        int bits = 0;
        for (int p = 0; p < known.length; p++) {
            for (int b = 0; b < known.length; b++) {
                if (lives(p, year) && names[b] == name && persons.get(b).born <= year
                        && (known[p] >> b & 1) == 1 && lawHolds(p, b, name, year)) {
                    bits |= 1 << p;
                }
            }
        }
        return bits;
    }

    boolean famed(int name, int year, int[] names) {
        for (int b = 0; b < names.length; b++) {
            if (fame[name] == 1 && names[b] == name && persons.get(b).born <= year) return true;
        }
        return false;
    }

    boolean isHeld(int name, int year, int[] names, int without) {
        return famed(name, year, names) || holders(name, year, names, without) != 0;
    }

    int[] names() {
        int[] names = new int[persons.size()];
        for (int p = 0; p < names.length; p++) names[p] = persons.get(p).name;
        return names;
    }

    int[] namesAhead(int person, int[] names) {
        int[] ahead = names.clone();
        List<Integer> order = order();
        for (int p = 0; p < ahead.length; p++) {
            if (order.indexOf(p) >= order.indexOf(person)) ahead[p] = -1;
        }
        return ahead;
    }

    boolean isYear(int year) {
        return year >= 0 && year <= 99;
    }

    int knows(int p, int year) {
        return isPerson(p) && isYear(year) ? knowing(year, 0)[p] : BAD;
    }

    int held(int name, int year, int what) {
        if (name < 0 || name > 11 || !isYear(year) || what < 0 || what > 2) return BAD;
        if (what == 0) return isHeld(name, year, names(), 0) ? 1 : 0;
        if (what == 1) return holders(name, year, names(), 0);
        for (int y = year; y < 100; y++) {
            if (!isHeld(name, y, names(), 0)) return y;
        }
        return NOT;
    }

    int free(int year) {
        if (!isYear(year)) return BAD;
        int bits = 0;
        for (int v = 0; v < 12; v++) {
            if (!isHeld(v, year, names(), 0)) bits |= 1 << v;
        }
        return bits;
    }

    int most(int what) {
        if (what < 0 || what > 1) return BAD;
        int most = -1, first = -1;
        for (int y = 0; y < 100; y++) {
            int many = 12 - Integer.bitCount(free(y));
            if (many > most) {
                most = many;
                first = y;
            }
        }
        return what == 0 ? most : first;
    }

    int judge() {
        for (int p : order()) {
            int v = persons.get(p).name;
            if (v >= 0 && isHeld(v, persons.get(p).born, namesAhead(p, names()), 0)) return p;
        }
        return NOT;
    }

    // ---- giving

    int given(int p, int way, int[] names) {
        int[] ahead = namesAhead(p, names);
        int year = persons.get(p).born;
        int best = NOT;
        int bestMerit = 0;
        for (int v = 0; v < 12; v++) {
            if (isHeld(v, year, ahead, 0)) continue;
            int merit = way == 1 ? latestHeld(v, year, ahead) : way == 2 ? worth[v] : 0;
            if (best == NOT || merit > bestMerit) {
                best = v;
                bestMerit = merit;
            }
        }
        return best;
    }

    int latestHeld(int name, int year, int[] ahead) {
        boolean borne = false;
        for (int v : ahead) borne |= v == name;
        for (int y = year - 1; y >= 0 && borne; y--) {
            if (isHeld(name, y, ahead, 0)) return y;
        }
        return -1;
    }

    int give(int p, int way) {
        if (!isPerson(p) || way < 0 || way > 2) return BAD;
        if (persons.get(p).name >= 0) return STATE;
        int v = given(p, way, names());
        if (v >= 0) persons.get(p).name = v;
        return v;
    }

    int[] thoughtRun(int way) {
        int[] names = new int[persons.size()];
        java.util.Arrays.fill(names, -1);
        for (int p : order()) names[p] = Math.max(-1, given(p, way, names));
        return names;
    }

    int run(int way, int p) {
        if (!isPerson(p) || way < 0 || way > 2) return BAD;
        int v = thoughtRun(way)[p];
        return v < 0 ? NOT : v;
    }

    int used(int way, int what) {
        if (way < 0 || way > 2 || what < 0 || what > 2) return BAD;
        int[] names = thoughtRun(way);
        java.util.Set<Integer> came = new java.util.TreeSet<>();
        int sum = 0, without = 0;
        for (int v : names) {
            if (v < 0) {
                without++;
            } else {
                came.add(v);
                sum += worth[v];
            }
        }
        return what == 0 ? came.size() : what == 1 ? sum : without;
    }

    int apart(int name, int year) {
        if (name < 0 || name > 11 || !isYear(year)) return BAD;
        int counting = 0;
        for (Meeting m : meetings) {
            if (counts(m)) counting |= 1 << m.number;
        }
        int best = NOT;
        for (int set = 0; set < 1 << meetings.size(); set++) {
            if ((set & ~counting) != 0) continue;
            if (best >= 0 && Integer.bitCount(set) >= Integer.bitCount(best)) continue;
            if (!isHeld(name, year, names(), set)) best = set;
        }
        return best;
    }

    int freed(int p, int year) {
        if (!isPerson(p) || !isYear(year)) return BAD;
        int bits = 0;
        for (int v = 0; v < 12; v++) {
            boolean held = isHeld(v, year, names(), 0);
            boolean still = famed(v, year, names()) || (holders(v, year, names(), 0) & ~(1 << p)) != 0;
            if (held && !still) bits |= 1 << v;
        }
        return bits;
    }

    int never(int p) {
        if (!isPerson(p)) return BAD;
        int bits = 0;
        List<Integer> order = order();
        for (int q = 0; q < persons.size(); q++) {
            boolean same = persons.get(p).name >= 0 && persons.get(q).name == persons.get(p).name;
            if (!same || order.indexOf(q) <= order.indexOf(p)) continue;
            for (int r = 0; r < persons.size(); r++) {
                if (r != p && r != q && lives(r, persons.get(q).born)) bits |= 1 << r;
            }
        }
        return bits;
    }

    int needs(int seed, int n, int what) {
        if (n < 1 || n > 20 || what < 0 || what > 1) return BAD;
        int[] told = new int[persons.size()];
        for (int p = 0; p < told.length; p++) told[p] = persons.get(p).dies;
        int z = seed, sum = 0, most = 0;
        for (int t = 0; t < n; t++) {
            for (Person p : persons) {
                z = z * 1103515245 + 12345;
                p.dies = p.born + 1 + (z >>> 8) % (100 - p.born);
            }
            int many = used(0, 0);
            sum += many;
            most = Math.max(most, many);
        }
        for (int p = 0; p < told.length; p++) persons.get(p).dies = told[p];
        return what == 0 ? sum / n : most;
    }

    int image() {
        kept = new ArrayList<>();
        for (Person p : persons) kept.add(p.name);
        return kept.size();
    }

    int back() {
        if (kept == null) return STATE;
        for (int p = 0; p < kept.size(); p++) persons.get(p).name = kept.get(p);
        return kept.size();
    }

    int undo() {
        if (done.isEmpty()) return STATE;
        Change c = done.remove(done.size() - 1);
        undone.add(c);
        set(c, c.before);
        return done.size();
    }

    int redo() {
        if (undone.isEmpty()) return STATE;
        Change c = undone.remove(undone.size() - 1);
        done.add(c);
        set(c, c.after);
        return undone.size();
    }

    // ---- acts, shelves: here the host's own classes and rows

    interface Gives {
        int n();
        void begin(int body);
        default int gives(int x) { begin(1); return x + n(); }
    }

    interface Tells extends Gives {
        int holds(int x);
        int knows(int x);
        default int tells(int x) { begin(2); return holds(x) - knows(1); }
    }

    static class Giver implements Gives, Tells {
        int n;
        int kind;
        List<Integer> ran;
        public int n() { return n; }
        public void begin(int body) { ran.add(body); }
        public int holds(int x) { begin(10); return gives(x) * 2; }
        public int knows(int x) { begin(11); return x ^ n; }
    }

    static class First extends Giver {
        @Override public int gives(int x) { begin(20); return super.gives(x) + 3; }
    }

    static class Soon extends Giver {
        @Override public int holds(int x) { begin(30); return -super.holds(x); }
    }

    static class Wish extends Soon {
        @Override public int knows(int x) { begin(40); return super.knows(x) * 3; }
        @Override public int holds(int x) { begin(41); return super.holds(x + 1); }
    }

    static class Blind extends First {
        @Override public int tells(int x) { begin(50); return super.tells(x) ^ 5; }
    }

    static class Best extends Wish {
        @Override public int knows(int x) { begin(60); return super.knows(x) - gives(2); }
        @Override public int tells(int x) { begin(61); return super.tells(x) + 1; }
    }

    static class Told extends Giver {
        @Override public int gives(int x) { begin(70); return super.gives(x) * 2; }
    }

    static class Hermit extends Told {
        @Override public int holds(int x) { begin(80); return super.holds(x) + knows(2); }
        @Override public int gives(int x) { begin(81); return super.gives(x) - 1; }
    }

    static final Class<?>[] KINDS = {
        Giver.class, First.class, Soon.class, Wish.class, Blind.class, Best.class, Told.class, Hermit.class,
    };

    int body(int kind) {
        if (kind < 0 || kind > 7) return BAD;
        if (bodies.size() == 50) return FULL;
        Giver g = switch (kind) {
            case 0 -> new Giver();
            case 1 -> new First();
            case 2 -> new Soon();
            case 3 -> new Wish();
            case 4 -> new Blind();
            case 5 -> new Best();
            case 6 -> new Told();
            default -> new Hermit();
        };
        g.n = bodies.size();
        g.kind = kind;
        g.ran = ran;
        bodies.add(g);
        return g.n;
    }

    int act(int body, int act, int x) {
        ran.clear();
        if (body < 0 || body >= bodies.size() || act < 0 || act > 3) return 0;
        Giver g = bodies.get(body);
        return act == 0 ? g.gives(x) : act == 1 ? g.holds(x) : act == 2 ? g.knows(x) : g.tells(x);
    }

    int trace(int i) {
        return i < 0 || i >= Math.min(24, ran.size()) ? BAD : ran.get(i);
    }

    int keep(int shelf, int body) {
        if (shelf < 0 || shelf > 5 || body < -1 || body >= bodies.size()) return BAD;
        shelves[shelf] = body == -1 ? null : bodies.get(body);
        return 1;
    }

    int row(int shelf, int sort, int n) {
        if (shelf < 0 || shelf > 5 || sort < 0 || sort > 4 || n > 60) return BAD;
        if (n < 0) return -14;
        shelves[shelf] = switch (sort) {
            case 0 -> new byte[n];
            case 1 -> new short[n];
            case 2 -> new int[n];
            case 3 -> new long[n];
            default -> new boolean[n];
        };
        return 1;
    }

    static int length(Object row) {
        return row instanceof Giver ? -1 : java.lang.reflect.Array.getLength(row);
    }

    int refusal(int shelf, int i) {
        if (shelf < 0 || shelf > 5) return BAD;
        if (shelves[shelf] == null) return -11;
        if (shelves[shelf] instanceof Giver) return -12;
        return i < 0 || i >= length(shelves[shelf]) ? -13 : 1;
    }

    int put(int shelf, int i, long v) {
        int answer = refusal(shelf, i);
        if (answer != 1) return answer;
        Object row = shelves[shelf];
        if (row instanceof byte[]) ((byte[]) row)[i] = (byte) v;
        else if (row instanceof short[]) ((short[]) row)[i] = (short) v;
        else if (row instanceof int[]) ((int[]) row)[i] = (int) v;
        else if (row instanceof long[]) ((long[]) row)[i] = v;
        else ((boolean[]) row)[i] = v != 0;
        return 1;
    }

    long element(int shelf, int i) {
        if (refusal(shelf, i) != 1) return Long.MIN_VALUE;
        Object row = shelves[shelf];
        if (row instanceof boolean[]) return ((boolean[]) row)[i] ? 1 : 0;
        return java.lang.reflect.Array.getLong(row, i);
    }

    int shift(int shelf, int i, int other, int j, int n) {
        if (shelf < 0 || shelf > 5 || other < 0 || other > 5) return BAD;
        Object from = shelves[shelf], to = shelves[other];
        if (from == null || to == null) return -11;
        if (from instanceof Giver || from.getClass() != to.getClass()) return -12;
        try {
            System.arraycopy(from, i, to, j, n);
            return n;
        } catch (IndexOutOfBoundsException e) {
            return -13;
        }
    }

    int taken(int shelf, int k) {
        if (shelf < 0 || shelf > 5 || k < 0 || k > 7) return BAD;
        if (shelves[shelf] == null) return -11;
        return KINDS[k].isInstance(shelves[shelf]) ? ((Giver) shelves[shelf]).kind : -12;
    }

    int count(int what) {
        int named = 0;
        for (Person p : persons) named += p.name >= 0 ? 1 : 0;
        int[] counts = {
            persons.size(), meetings.size(), named, tape.length(), done.size(), bodies.size(), ran.size(),
        };
        return what < 0 || what >= counts.length ? BAD : counts[what];
    }
}
