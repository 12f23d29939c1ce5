import java.util.Arrays;

/** A parish in which a name rests until nobody is left who holds it: DOC.md tells each promise. */
public final class NameRests {
    public static final int BAD = -1, NOT = -2, FULL = -3, STATE = -5, VOID = -2000000000;

    private static final int NOTHING_THERE = -11, OTHER_KIND = -12, NO_SUCH_PLACE = -13, NO_SUCH_SIZE = -14;
    private static final int YEARS = 100, MOST_PEOPLE = 12, NAMES = 12, ALL_NAMES = 4095, NONE = -1;
    private static final int MOST_MEETINGS = 16, MOST_WORTH = 9, MOST_TIMES = 20;
    private static final int LEAST_NUMBER = 0, LATEST_HELD = 1, MOST_WORTHY = 2, WAYS = 3;
    private static final int SHELVES = 6, FAULT_BASE = -100, NO_FAULT = -1;
    private static final int CHANGED_DIES = 0, CHANGED_WORTH = 1;

    private final Law law;
    private final Parish parish;
    private final Naming naming;
    private final Parting parting;
    private final Changes changes;
    private final Givers givers;
    private final Shelf[] shelves;
    private final int[] imageNames;
    private int imagePeople;

    public NameRests() {
        law = new Law();
        parish = new Parish(law);
        naming = new Naming(parish, new Parish(law));
        parting = new Parting(parish);
        changes = new Changes();
        givers = new Givers();
        shelves = new Shelf[SHELVES];
        for (int s = 0; s < SHELVES; s++) {
            shelves[s] = new Shelf();
        }
        imageNames = new int[MOST_PEOPLE];
        imagePeople = NONE;
    }

    // ---- people, meetings, names

    public int person(int born, int dies) {
        if (!mayLive(born, dies)) {
            return BAD;
        }
        return parish.come(born, dies, NONE);
    }

    public int people(int shelf, int i, int n) {
        if (!isShelf(shelf) || n < 1 || n > MOST_PEOPLE) {
            return BAD;
        }
        Shelf from = shelves[shelf];
        if (from.isEmpty()) {
            return 0;
        }
        if (!from.isRow() || from.sort != Shelf.BYTES) {
            return OTHER_KIND;
        }
        for (int came = 0; came < n; came++) {
            if (!comesFrom(from, i, came)) {
                return came;
            }
        }
        return n;
    }

    public int meet(int ab, int year) {
        if (ab < 0 || !parish.mayMeet(ab / 100, ab % 100, year)) {
            return BAD;
        }
        return parish.addMeeting(ab / 100, ab % 100, year);
    }

    public int hearing(int v) {
        if (v != 0 && v != 1) {
            return BAD;
        }
        int was = parish.hearing;
        parish.hearing = v;
        return was;
    }

    public int name(int person, int v) {
        if (!parish.hasPerson(person) || !mayBeNamed(v)) {
            return VOID;
        }
        int was = parish.names[person];
        parish.names[person] = v;
        return was;
    }

    public int fame(int name, int v) {
        if (!isName(name) || (v != 0 && v != 1)) {
            return BAD;
        }
        int was = parish.fame[name];
        parish.fame[name] = v;
        return was;
    }

    public int mend(int number, int what, int v) {
        if (!mayMend(number, what, v)) {
            return BAD;
        }
        int[] mended = what == CHANGED_DIES ? parish.dies : parish.worth;
        int was = mended[number];
        if (was != v) {
            mended[number] = v;
            changes.add(what, number, was, v);
        }
        return was;
    }

    public int of(int number, int what) {
        if (what < 10) {
            return parish.hasPerson(number) ? ofPerson(number, what) : VOID;
        }
        if (what < 20) {
            return isName(number) ? ofName(number, what) : VOID;
        }
        return parish.hasMeeting(number) ? ofMeeting(number, what) : VOID;
    }

    public int feed(int letter) {
        if (letter < 0 || letter > 255) {
            return BAD;
        }
        return law.takeByte(letter);
    }

    public int law() {
        int fault = law.takeTape();
        return fault == NO_FAULT ? 1 : FAULT_BASE - fault;
    }

    // ---- who knows, which are held

    public int knows(int person, int year) {
        if (!parish.hasPerson(person) || !isYear(year)) {
            return BAD;
        }
        parish.learnUpTo(year);
        return parish.known[person];
    }

    public int held(int name, int year, int what) {
        if (!isName(name) || !isYear(year)) {
            return BAD;
        }
        switch (what) {
            case 0:
                return parish.heldIn(year) >> name & 1;
            case 1:
                return parish.holdersOf(name, year);
            case 2:
                return heldTill(name, year);
            default:
                return BAD;
        }
    }

    public int free(int year) {
        return isYear(year) ? ALL_NAMES & ~parish.heldIn(year) : BAD;
    }

    public int most(int what) {
        if (what != 0 && what != 1) {
            return BAD;
        }
        int most = 0;
        int first = 0;
        for (int year = 0; year < YEARS; year++) {
            int names = Integer.bitCount(parish.heldIn(year));
            if (names > most) {
                most = names;
                first = year;
            }
        }
        return what == 0 ? most : first;
    }

    public int judge() {
        return naming.firstHeldAtBirth();
    }

    // ---- giving

    public int give(int person, int way) {
        if (!parish.hasPerson(person) || !isWay(way)) {
            return BAD;
        }
        if (parish.names[person] != NONE) {
            return STATE;
        }
        int given = naming.chosenFor(person, way);
        if (given != NOT) {
            parish.names[person] = given;
        }
        return given;
    }

    public int run(int way, int person) {
        if (!isWay(way) || !parish.hasPerson(person)) {
            return BAD;
        }
        naming.begin();
        naming.nameAll(way);
        int given = naming.thought.names[person];
        return given == NONE ? NOT : given;
    }

    public int used(int way, int what) {
        if (!isWay(way) || what < 0 || what > 2) {
            return BAD;
        }
        naming.begin();
        naming.nameAll(way);
        if (what == 0) {
            return naming.namesThatCame();
        }
        return what == 1 ? naming.sumOfWorths() : naming.peopleWithout();
    }

    public int apart(int name, int year) {
        if (!isName(name) || !isYear(year)) {
            return BAD;
        }
        return parting.fewest(name, year);
    }

    public int freed(int person, int year) {
        if (!parish.hasPerson(person) || !isYear(year)) {
            return BAD;
        }
        int bits = 0;
        for (int name = 0; name < NAMES; name++) {
            if (parish.holdersOf(name, year) == 1 << person && !parish.isFamed(name, year)) {
                bits |= 1 << name;
            }
        }
        return bits;
    }

    public int never(int person) {
        if (!parish.hasPerson(person)) {
            return BAD;
        }
        if (parish.names[person] == NONE) {
            return 0;
        }
        int bits = 0;
        for (int k = parish.placeOf(person) + 1; k < parish.people; k++) {
            int later = parish.order[k];
            if (parish.names[later] == parish.names[person]) {
                bits |= parish.livingIn(parish.born[later]) & ~(1 << later);
            }
        }
        return bits & ~(1 << person);
    }

    public int needs(int seed, int n, int what) {
        if (n < 1 || n > MOST_TIMES || (what != 0 && what != 1)) {
            return BAD;
        }
        naming.begin();
        int z = seed;
        int sum = 0;
        int most = 0;
        for (int time = 0; time < n; time++) {
            z = naming.drawDeaths(z);
            naming.nameAll(LEAST_NUMBER);
            sum += naming.namesThatCame();
            most = Math.max(most, naming.namesThatCame());
        }
        return what == 0 ? sum / n : most;
    }

    public int image() {
        imagePeople = parish.people;
        System.arraycopy(parish.names, 0, imageNames, 0, MOST_PEOPLE);
        return imagePeople;
    }

    public int back() {
        if (imagePeople == NONE) {
            return STATE;
        }
        System.arraycopy(imageNames, 0, parish.names, 0, imagePeople);
        return imagePeople;
    }

    public int undo() {
        if (!changes.stepBack()) {
            return STATE;
        }
        setChanged(changes.before[changes.done]);
        return changes.done;
    }

    public int redo() {
        if (!changes.hasUndone()) {
            return STATE;
        }
        setChanged(changes.after[changes.done]);
        changes.stepOn();
        return changes.kept - changes.done;
    }

    // ---- acts, shelves

    public int body(int kind) {
        return isKind(kind) ? givers.add(kind) : BAD;
    }

    public int act(int body, int act, int x) {
        return givers.perform(body, act, x);
    }

    public int trace(int i) {
        return i >= 0 && i < givers.traced() ? givers.trace[i] : BAD;
    }

    public int keep(int shelf, int body) {
        if (!isShelf(shelf) || (body != NONE && !givers.has(body))) {
            return BAD;
        }
        shelves[shelf].holdBody(body);
        return 1;
    }

    public int row(int shelf, int sort, int n) {
        if (!isShelf(shelf) || sort < Shelf.BYTES || sort > Shelf.BOOLEANS || n > Shelf.MOST_ELEMENTS) {
            return BAD;
        }
        if (n < 0) {
            return NO_SUCH_SIZE;
        }
        shelves[shelf].holdRow(sort, n);
        return 1;
    }

    public int put(int shelf, int i, long v) {
        int refusal = refusalOf(shelf, i);
        if (refusal != 0) {
            return refusal;
        }
        shelves[shelf].setElement(i, v);
        return 1;
    }

    public long element(int shelf, int i) {
        return refusalOf(shelf, i) == 0 ? shelves[shelf].elements[i] : Long.MIN_VALUE;
    }

    public int shift(int shelf, int i, int other, int j, int n) {
        if (!isShelf(shelf) || !isShelf(other)) {
            return BAD;
        }
        Shelf from = shelves[shelf];
        Shelf to = shelves[other];
        if (from.isEmpty() || to.isEmpty()) {
            return NOTHING_THERE;
        }
        if (!from.isRow() || !to.isRow() || from.sort != to.sort) {
            return OTHER_KIND;
        }
        if (!from.hasPlaces(i, n) || !to.hasPlaces(j, n)) {
            return NO_SUCH_PLACE;
        }
        System.arraycopy(from.elements, i, to.elements, j, n);
        return n;
    }

    public int taken(int shelf, int k) {
        if (!isShelf(shelf) || !isKind(k)) {
            return BAD;
        }
        Shelf from = shelves[shelf];
        if (from.isEmpty()) {
            return NOTHING_THERE;
        }
        if (from.isRow() || !givers.has(from.body)) {
            return OTHER_KIND;
        }
        int kind = givers.kinds[from.body];
        return Givers.isUnder(kind, k) ? kind : OTHER_KIND;
    }

    public int count(int what) {
        switch (what) {
            case 0:
                return parish.people;
            case 1:
                return parish.meetings;
            case 2:
                return parish.namedPeople();
            case 3:
                return law.onTape;
            case 4:
                return changes.done;
            case 5:
                return givers.bodies;
            case 6:
                return givers.ran;
            default:
                return BAD;
        }
    }

    // ---- what may be told

    private static boolean isYear(int year) {
        return year >= 0 && year < YEARS;
    }

    private static boolean isName(int name) {
        return name >= 0 && name < NAMES;
    }

    private static boolean isWay(int way) {
        return way >= 0 && way < WAYS;
    }

    private static boolean isShelf(int shelf) {
        return shelf >= 0 && shelf < SHELVES;
    }

    private static boolean isKind(int kind) {
        return kind >= 0 && kind < Givers.KINDS;
    }

    private static boolean mayLive(int born, int dies) {
        return isYear(born) && dies > born && dies <= YEARS;
    }

    private static boolean mayBeNamed(int name) {
        return name == NONE || isName(name);
    }

    private boolean mayMend(int number, int what, int v) {
        if (what == CHANGED_DIES) {
            return parish.hasPerson(number) && mayLive(parish.born[number], v);
        }
        return what == CHANGED_WORTH && isName(number) && v >= 0 && v <= MOST_WORTH;
    }

    // ---- parts of the calls above

    /** The came-th three from place i on becomes a person, if it is all there and as it may be. */
    private boolean comesFrom(Shelf from, int i, int came) {
        if (i < 0 || i > from.size - 3 - 3 * came) {
            return false;
        }
        int at = i + 3 * came;
        int born = (int) from.elements[at];
        int dies = (int) from.elements[at + 1];
        int name = (int) from.elements[at + 2];
        return mayLive(born, dies) && mayBeNamed(name) && parish.come(born, dies, name) != FULL;
    }

    private int ofPerson(int person, int what) {
        switch (what) {
            case 0:
                return parish.born[person];
            case 1:
                return parish.dies[person];
            case 2:
                return parish.names[person];
            case 3:
                return parish.placeOf(person);
            default:
                return VOID;
        }
    }

    private int ofName(int name, int what) {
        switch (what) {
            case 10:
                return parish.worth[name];
            case 11:
                return parish.fame[name];
            case 12:
                return parish.bearersOf(name);
            default:
                return VOID;
        }
    }

    private int ofMeeting(int meeting, int what) {
        switch (what) {
            case 20:
                return 100 * parish.one[meeting] + parish.other[meeting];
            case 21:
                return parish.meetingYear[meeting];
            case 22:
                return parish.counts(meeting) ? 1 : 0;
            default:
                return VOID;
        }
    }

    private int heldTill(int name, int from) {
        for (int year = from; year < YEARS; year++) {
            if ((parish.heldIn(year) >> name & 1) == 0) {
                return year;
            }
        }
        return NOT;
    }

    private void setChanged(int v) {
        int number = changes.number[changes.done];
        if (changes.what[changes.done] == CHANGED_DIES) {
            parish.dies[number] = v;
        } else {
            parish.worth[number] = v;
        }
    }

    /** 0, or why a row on the shelf has no element i. */
    private int refusalOf(int shelf, int i) {
        if (!isShelf(shelf)) {
            return BAD;
        }
        if (shelves[shelf].isEmpty()) {
            return NOTHING_THERE;
        }
        if (!shelves[shelf].isRow()) {
            return OTHER_KIND;
        }
        return shelves[shelf].hasPlaces(i, 1) ? 0 : NO_SUCH_PLACE;
    }

    /** People, their meetings and names; who knows whom and which names are held follow from these. */
    private static final class Parish {
        final Law law;
        final int[] born = new int[MOST_PEOPLE];
        final int[] dies = new int[MOST_PEOPLE];
        final int[] names = new int[MOST_PEOPLE];
        final int[] order = new int[MOST_PEOPLE];
        int people;
        final int[] one = new int[MOST_MEETINGS];
        final int[] other = new int[MOST_MEETINGS];
        final int[] meetingYear = new int[MOST_MEETINGS];
        final int[] meetingOrder = new int[MOST_MEETINGS];
        int meetings;
        int hearing;
        final int[] worth = new int[NAMES];
        final int[] fame = new int[NAMES];
        final int[] known = new int[MOST_PEOPLE];

        Parish(Law law) {
            this.law = law;
            Arrays.fill(names, NONE);
            Arrays.fill(worth, 1);
        }

        /** Copied, not shared, so that what comes in thought leaves the real parish as it is. */
        void copyAllButNames(Parish real) {
            System.arraycopy(real.born, 0, born, 0, MOST_PEOPLE);
            System.arraycopy(real.dies, 0, dies, 0, MOST_PEOPLE);
            System.arraycopy(real.order, 0, order, 0, MOST_PEOPLE);
            people = real.people;
            System.arraycopy(real.one, 0, one, 0, MOST_MEETINGS);
            System.arraycopy(real.other, 0, other, 0, MOST_MEETINGS);
            System.arraycopy(real.meetingYear, 0, meetingYear, 0, MOST_MEETINGS);
            System.arraycopy(real.meetingOrder, 0, meetingOrder, 0, MOST_MEETINGS);
            meetings = real.meetings;
            hearing = real.hearing;
            System.arraycopy(real.worth, 0, worth, 0, NAMES);
            System.arraycopy(real.fame, 0, fame, 0, NAMES);
        }

        boolean hasPerson(int person) {
            return person >= 0 && person < people;
        }

        boolean hasMeeting(int meeting) {
            return meeting >= 0 && meeting < meetings;
        }

        int come(int personBorn, int personDies, int personName) {
            if (people >= MOST_PEOPLE) {
                return FULL;
            }
            int place = people;
            for (int k = people - 1; k >= 0 && born[order[k]] > personBorn; k--) {
                order[k + 1] = order[k];
                place = k;
            }
            order[place] = people;
            born[people] = personBorn;
            dies[people] = personDies;
            names[people] = personName;
            return people++;
        }

        int placeOf(int person) {
            for (int k = 0; k < people; k++) {
                if (order[k] == person) {
                    return k;
                }
            }
            return people;
        }

        boolean lives(int person, int year) {
            return born[person] <= year && year < dies[person];
        }

        int livingIn(int year) {
            int bits = 0;
            for (int p = 0; p < people; p++) {
                if (lives(p, year)) {
                    bits |= 1 << p;
                }
            }
            return bits;
        }

        boolean mayMeet(int a, int b, int year) {
            return hasPerson(a) && hasPerson(b) && a != b && lives(a, year) && lives(b, year);
        }

        int addMeeting(int a, int b, int year) {
            if (meetings >= MOST_MEETINGS) {
                return FULL;
            }
            int place = meetings;
            for (int k = meetings - 1; k >= 0 && meetingYear[meetingOrder[k]] > year; k--) {
                meetingOrder[k + 1] = meetingOrder[k];
                place = k;
            }
            meetingOrder[place] = meetings;
            one[meetings] = a;
            other[meetings] = b;
            meetingYear[meetings] = year;
            return meetings++;
        }

        boolean counts(int meeting) {
            return lives(one[meeting], meetingYear[meeting]) && lives(other[meeting], meetingYear[meeting]);
        }

        boolean countsBy(int meeting, int year) {
            return meetingYear[meeting] <= year && counts(meeting);
        }

        void learnUpTo(int year) {
            knowOneself();
            for (int k = 0; k < meetings; k++) {
                if (countsBy(meetingOrder[k], year)) {
                    greet(meetingOrder[k]);
                }
            }
        }

        void knowOneself() {
            for (int p = 0; p < people; p++) {
                known[p] = 1 << p;
            }
        }

        void greet(int meeting) {
            int a = one[meeting];
            int b = other[meeting];
            int knownByA = known[a];
            int knownByB = known[b];
            known[a] = knownByA | (hearing == 1 ? knownByB : 1 << b);
            known[b] = knownByB | (hearing == 1 ? knownByA : 1 << a);
        }

        int bearersOf(int name) {
            int bits = 0;
            for (int p = 0; p < people; p++) {
                if (names[p] == name) {
                    bits |= 1 << p;
                }
            }
            return bits;
        }

        int namedPeople() {
            int named = 0;
            for (int p = 0; p < people; p++) {
                if (names[p] != NONE) {
                    named++;
                }
            }
            return named;
        }

        boolean isBearer(int person, int name, int year) {
            return names[person] == name && born[person] <= year;
        }

        boolean isFamed(int name, int year) {
            for (int p = 0; p < people && fame[name] == 1; p++) {
                if (isBearer(p, name, year)) {
                    return true;
                }
            }
            return false;
        }

        boolean livesKnowing(int person, int bearer, int year) {
            return (known[person] >> bearer & 1) == 1 && lives(person, year);
        }

        /** Whether the law lets one hold the bearer's name, if it lives and knows that one. */
        boolean wouldHold(int person, int bearer, int year) {
            int name = names[bearer];
            if (name < 0) {
                return false;
            }
            int deadFor = Math.max(0, year - dies[bearer]);
            int itself = person == bearer ? 1 : 0;
            law.tell(year - born[person], deadFor, fame[name], worth[name], itself, name);
            return law.reckon() != 0;
        }

        int holdersOf(int name, int year) {
            learnUpTo(year);
            int bits = 0;
            for (int b = 0; b < people; b++) {
                if (!isBearer(b, name, year)) {
                    continue;
                }
                for (int p = 0; p < people; p++) {
                    if ((bits >> p & 1) == 0 && livesKnowing(p, b, year) && wouldHold(p, b, year)) {
                        bits |= 1 << p;
                    }
                }
            }
            return bits;
        }

        int heldIn(int year) {
            learnUpTo(year);
            int bits = 0;
            for (int b = 0; b < people; b++) {
                int name = names[b];
                if (name < 0 || born[b] > year || (bits >> name & 1) == 1) {
                    continue;
                }
                boolean isHeld = fame[name] == 1;
                for (int p = 0; p < people && !isHeld; p++) {
                    isHeld = livesKnowing(p, b, year) && wouldHold(p, b, year);
                }
                bits |= isHeld ? 1 << name : 0;
            }
            return bits;
        }
    }

    /** Gives names in thought: nobody is a bearer there but those who were named ahead in the order. */
    private static final class Naming {
        final Parish real;
        final Parish thought;
        final int[] latestHeld = new int[NAMES];
        int notedYears;

        Naming(Parish real, Parish thought) {
            this.real = real;
            this.thought = thought;
        }

        void begin() {
            thought.copyAllButNames(real);
            forgetNames();
        }

        void forgetNames() {
            Arrays.fill(thought.names, NONE);
            Arrays.fill(latestHeld, NONE);
            notedYears = 0;
        }

        /** Whoever is born ahead of that year has been named by now, so that each year is noted once. */
        void noteHeldAheadOf(int year) {
            for (int y = notedYears; y < year; y++) {
                int bits = thought.heldIn(y);
                for (int name = 0; name < NAMES; name++) {
                    latestHeld[name] = (bits >> name & 1) == 1 ? y : latestHeld[name];
                }
            }
            notedYears = Math.max(notedYears, year);
        }

        boolean isBetter(int name, int best, int way) {
            if (best == NOT) {
                return true;
            }
            if (way == LATEST_HELD) {
                return latestHeld[name] > latestHeld[best];
            }
            return way == MOST_WORTHY && thought.worth[name] > thought.worth[best];
        }

        int choose(int person, int way) {
            int bits = thought.heldIn(thought.born[person]);
            int best = NOT;
            for (int name = 0; name < NAMES; name++) {
                if ((bits >> name & 1) == 0 && isBetter(name, best, way)) {
                    best = name;
                }
            }
            return best;
        }

        int chosenFor(int person, int way) {
            begin();
            for (int k = 0; k < real.people && real.order[k] != person; k++) {
                thought.names[real.order[k]] = real.names[real.order[k]];
            }
            if (way == LATEST_HELD) {
                noteHeldAheadOf(real.born[person]);
            }
            return choose(person, way);
        }

        int firstHeldAtBirth() {
            begin();
            for (int k = 0; k < real.people; k++) {
                int person = real.order[k];
                int name = real.names[person];
                if (name >= 0 && (thought.heldIn(real.born[person]) >> name & 1) == 1) {
                    return person;
                }
                thought.names[person] = name;
            }
            return NOT;
        }

        void nameAll(int way) {
            forgetNames();
            for (int k = 0; k < thought.people; k++) {
                int person = thought.order[k];
                if (way == LATEST_HELD) {
                    noteHeldAheadOf(thought.born[person]);
                }
                int given = choose(person, way);
                thought.names[person] = given == NOT ? NONE : given;
            }
        }

        int namesThatCame() {
            int bits = 0;
            for (int p = 0; p < thought.people; p++) {
                if (thought.names[p] >= 0) {
                    bits |= 1 << thought.names[p];
                }
            }
            return Integer.bitCount(bits);
        }

        int sumOfWorths() {
            int sum = 0;
            for (int p = 0; p < thought.people; p++) {
                if (thought.names[p] >= 0) {
                    sum += thought.worth[thought.names[p]];
                }
            }
            return sum;
        }

        int peopleWithout() {
            return thought.people - thought.namedPeople();
        }

        /** The seed to go on with. */
        int drawDeaths(int seed) {
            int z = seed;
            for (int p = 0; p < thought.people; p++) {
                z = z * 1103515245 + 12345;
                int yearsLeft = YEARS - thought.born[p];
                if (yearsLeft > 0) {
                    thought.dies[p] = thought.born[p] + 1 + (z >>> 8) % yearsLeft;
                }
            }
            return z;
        }
    }

    /** Seeks the fewest meetings without which a name is free: each chain to a bearer must lose one. */
    private static final class Parting {
        final Parish parish;
        final int[] holdsFor = new int[MOST_PEOPLE];
        final int[] learntBy = new int[MOST_PEOPLE * MOST_PEOPLE];
        int year;
        int best;
        int bestSize;

        Parting(Parish parish) {
            this.parish = parish;
        }

        int fewest(int name, int inYear) {
            year = inYear;
            if (parish.isFamed(name, year) || !noteWhoHolds(name)) {
                return NOT;
            }
            best = 0;
            bestSize = MOST_MEETINGS + 1;
            seek(0, 0, 0);
            return best;
        }

        /** False if one holds its own name: no meeting parts it from itself. */
        boolean noteWhoHolds(int name) {
            for (int p = 0; p < parish.people; p++) {
                holdsFor[p] = 0;
                for (int b = 0; b < parish.people && parish.lives(p, year); b++) {
                    if (parish.isBearer(b, name, year) && parish.wouldHold(p, b, year)) {
                        holdsFor[p] |= 1 << b;
                    }
                }
                if ((holdsFor[p] >> p & 1) == 1) {
                    return false;
                }
            }
            return true;
        }

        /** Meetings in kept are not removed here: an earlier branch has looked at all sets that have them. */
        void seek(int removed, int kept, int size) {
            int chain = chainWithout(removed);
            if (chain == 0) {
                if (size < bestSize || removed < best) {
                    best = removed;
                    bestSize = size;
                }
                return;
            }
            int stays = kept;
            for (int m = 0; m < MOST_MEETINGS && size < bestSize && size < MOST_MEETINGS; m++) {
                if ((chain & ~stays) >> m == 0) {
                    return;
                }
                if (((chain & ~stays) >> m & 1) == 1) {
                    seek(removed | 1 << m, stays, size + 1);
                    stays |= 1 << m;
                }
            }
        }

        /** The meetings (bits) by which some holder came to know a bearer; 0: there is no holder. */
        int chainWithout(int removed) {
            parish.knowOneself();
            for (int k = 0; k < parish.meetings; k++) {
                int m = parish.meetingOrder[k];
                if ((removed >> m & 1) == 0 && parish.countsBy(m, year)) {
                    greetAndNote(m);
                }
            }
            for (int p = 0; p < parish.people; p++) {
                int heldFor = parish.known[p] & holdsFor[p];
                for (int b = 0; b < parish.people && heldFor != 0; b++) {
                    if ((heldFor >> b & 1) == 1) {
                        return chainOf(p, b);
                    }
                }
            }
            return 0;
        }

        void greetAndNote(int meeting) {
            int a = parish.one[meeting];
            int b = parish.other[meeting];
            int knownByA = parish.known[a];
            int knownByB = parish.known[b];
            parish.greet(meeting);
            noteLearnt(a, parish.known[a] & ~knownByA, meeting);
            noteLearnt(b, parish.known[b] & ~knownByB, meeting);
        }

        void noteLearnt(int person, int learnt, int meeting) {
            for (int p = 0; p < MOST_PEOPLE && learnt >> p != 0; p++) {
                if ((learnt >> p & 1) == 1) {
                    learntBy[person * MOST_PEOPLE + p] = meeting;
                }
            }
        }

        int chainOf(int person, int bearer) {
            int bits = 0;
            int at = person;
            for (int k = 0; k < MOST_MEETINGS && at != bearer; k++) {
                int meeting = learntBy[at * MOST_PEOPLE + bearer];
                bits |= 1 << meeting;
                at = parish.one[meeting] == at ? parish.other[meeting] : parish.one[meeting];
            }
            return bits;
        }
    }

    /** The tape and the law: a text is turned into a code that reckons on a stack. */
    private static final class Law {
        static final int MOST_BYTES = 120, MOST_OPEN = 6, MOST_DIGITS = 4, OLD = 80;
        static final int AGE = 0, DEAD_FOR = 1, FAME = 2, WORTH = 3, ITSELF = 4, NAME = 5, LETTERS = 6;
        static final String LETTER_NAMES = "adfwin";
        /** Codes: a number is itself, a letter is -1 less its index, a sign is its byte below 0. */
        static final int NEGATIVE = '~';
        static final int COMPARING = 2, RANKS = 5, NO_RANK = -1, THE_END = -1;

        final int[] tape = new int[MOST_BYTES];
        int onTape;
        final int[] draft = new int[MOST_BYTES];
        int drafted;
        int place;
        int fault;
        final int[] code = new int[MOST_BYTES];
        int codes;
        final int[] told = new int[LETTERS];
        final int[] stack = new int[MOST_BYTES];
        int height;

        int takeByte(int letter) {
            if (onTape >= MOST_BYTES) {
                return FULL;
            }
            tape[onTape] = letter;
            onTape++;
            return onTape;
        }

        /** NO_FAULT, or the place of the fault; the tape is empty behind it. */
        int takeTape() {
            drafted = 0;
            place = 0;
            fault = NO_FAULT;
            readLines();
            onTape = 0;
            if (fault == NO_FAULT) {
                System.arraycopy(draft, 0, code, 0, drafted);
                codes = drafted;
            }
            return fault;
        }

        void readLines() {
            readLine();
            for (int k = 0; k < MOST_BYTES && fault == NO_FAULT && nextByte() == ';'; k++) {
                draftSign();
                readLine();
            }
            if (nextByte() != THE_END) {
                refuse();
            }
        }

        void readLine() {
            readRank(0, 0);
            if (fault == NO_FAULT && nextByte() == '?') {
                draftSign();
                readRank(0, 0);
            }
        }

        /** Parts joined by signs of this rank, each part of the next one; open tells how many stand open. */
        void readRank(int rank, int open) {
            if (rank >= RANKS) {
                readOperand(open);
                return;
            }
            readRank(rank + 1, open);
            for (int k = 0; k < MOST_BYTES && fault == NO_FAULT && rankOf(nextByte()) == rank; k++) {
                int sign = nextByte();
                place++;
                readRank(rank + 1, open);
                draftCode(-sign);
                if (rank == COMPARING) {
                    return;
                }
            }
        }

        void readOperand(int open) {
            int sign = nextByte();
            if (isDigit(sign)) {
                readNumber();
            } else if (letterOf(sign) >= 0) {
                draftCode(-1 - letterOf(sign));
                place++;
            } else if (open < MOST_OPEN && (sign == '!' || sign == '-')) {
                place++;
                readOperand(open + 1);
                draftCode(sign == '-' ? -NEGATIVE : -sign);
            } else if (open < MOST_OPEN && sign == '(') {
                place++;
                readRank(0, open + 1);
                readClosing();
            } else {
                refuse();
            }
        }

        void readClosing() {
            if (nextByte() == ')') {
                place++;
            } else {
                refuse();
            }
        }

        void readNumber() {
            int number = 0;
            for (int k = 0; k < MOST_DIGITS && isDigit(nextByte()); k++) {
                number = number * 10 + nextByte() - '0';
                place++;
            }
            draftCode(number);
        }

        /** The first refusal counts: what is read behind it goes for nothing. */
        void refuse() {
            if (fault == NO_FAULT) {
                fault = place;
            }
        }

        int nextByte() {
            return place >= 0 && place < onTape ? tape[place] : THE_END;
        }

        void draftSign() {
            draftCode(-nextByte());
            place++;
        }

        void draftCode(int c) {
            if (drafted < MOST_BYTES) {
                draft[drafted] = c;
                drafted++;
            }
        }

        static boolean isDigit(int sign) {
            return sign >= '0' && sign <= '9';
        }

        static int letterOf(int sign) {
            return sign < 0 ? -1 : LETTER_NAMES.indexOf((char) sign);
        }

        static int rankOf(int sign) {
            switch (sign) {
                case '|':
                    return 0;
                case '&':
                    return 1;
                case '<':
                case '=':
                case '>':
                    return COMPARING;
                case '+':
                case '-':
                    return 3;
                case '*':
                case '/':
                case '%':
                    return 4;
                default:
                    return NO_RANK;
            }
        }

        void tell(int age, int deadFor, int fame, int worth, int itself, int name) {
            told[AGE] = age;
            told[DEAD_FOR] = deadFor;
            told[FAME] = fame;
            told[WORTH] = worth;
            told[ITSELF] = itself;
            told[NAME] = name;
        }

        /** By what was told last. */
        int reckon() {
            if (codes == 0) {
                return told[AGE] < OLD || told[ITSELF] == 1 ? 1 : 0;
            }
            height = 0;
            boolean passing = false;
            for (int k = 0; k < codes; k++) {
                int c = code[k];
                if (c == -';') {
                    if (!passing) {
                        return pop();
                    }
                    passing = false;
                } else if (passing) {
                    continue;
                } else if (c == -'?') {
                    passing = pop() == 0;
                } else if (c >= -LETTERS) {
                    push(c >= 0 ? c : told[-1 - c]);
                } else {
                    reckonSign(-c);
                }
            }
            return pop();
        }

        void reckonSign(int sign) {
            int right = pop();
            if (sign == '!') {
                push(right == 0 ? 1 : 0);
            } else if (sign == NEGATIVE) {
                push(-right);
            } else {
                push(joined(sign, pop(), right));
            }
        }

        static int joined(int sign, int left, int right) {
            switch (sign) {
                case '+':
                    return left + right;
                case '-':
                    return left - right;
                case '*':
                    return left * right;
                case '/':
                    return right == 0 ? 0 : left / right;
                case '%':
                    return right == 0 ? 0 : left % right;
                case '|':
                    return left != 0 || right != 0 ? 1 : 0;
                case '&':
                    return left != 0 && right != 0 ? 1 : 0;
                case '<':
                    return left < right ? 1 : 0;
                case '=':
                    return left == right ? 1 : 0;
                case '>':
                    return left > right ? 1 : 0;
                default:
                    return 0;
            }
        }

        void push(int v) {
            if (height < MOST_BYTES) {
                stack[height] = v;
                height++;
            }
        }

        /** 0 from an empty stack: that is what a law without a line that counts comes to. */
        int pop() {
            if (height < 1) {
                return 0;
            }
            height--;
            return stack[height];
        }
    }

    /** Changes that were done, then those that were undone and may be done again. */
    private static final class Changes {
        static final int MOST_CHANGES = 40;

        final int[] what = new int[MOST_CHANGES];
        final int[] number = new int[MOST_CHANGES];
        final int[] before = new int[MOST_CHANGES];
        final int[] after = new int[MOST_CHANGES];
        int done;
        int kept;

        void add(int changed, int ofNumber, int was, int becomes) {
            if (done >= MOST_CHANGES) {
                dropOldest();
            }
            what[done] = changed;
            number[done] = ofNumber;
            before[done] = was;
            after[done] = becomes;
            done++;
            kept = done;
        }

        void dropOldest() {
            done = MOST_CHANGES - 1;
            System.arraycopy(what, 1, what, 0, done);
            System.arraycopy(number, 1, number, 0, done);
            System.arraycopy(before, 1, before, 0, done);
            System.arraycopy(after, 1, after, 0, done);
        }

        boolean stepBack() {
            if (done < 1) {
                return false;
            }
            done--;
            return true;
        }

        boolean hasUndone() {
            return done < kept;
        }

        void stepOn() {
            done++;
        }
    }

    /** Bodies of kinds; an act's body is that of the kind itself or of the next kind above that has one. */
    private static final class Givers {
        static final int KINDS = 8, ACTS = 4, MOST_BODIES = 50, MOST_TRACED = 24, DEEPEST = 40;
        static final int GIVES = 0, HOLDS = 1, KNOWS = 2, TELLS = 3;
        private static final int[] ABOVE = {-1, 0, 0, 2, 1, 3, 0, 6};
        /** By kinds: the bodies for gives, holds, knows, tells; 0 where the kind has none of its own. */
        private static final int[] OWN_BODIES = {
            1, 10, 11, 2,
            20, 0, 0, 0,
            0, 30, 0, 0,
            0, 41, 40, 0,
            0, 0, 0, 50,
            0, 0, 60, 61,
            70, 0, 0, 0,
            81, 80, 0, 0,
        };

        final int[] kinds = new int[MOST_BODIES];
        int bodies;
        final int[] trace = new int[MOST_TRACED];
        int ran;
        int actor;

        boolean has(int body) {
            return body >= 0 && body < bodies;
        }

        int add(int kind) {
            if (bodies >= MOST_BODIES) {
                return FULL;
            }
            kinds[bodies] = kind;
            return bodies++;
        }

        int traced() {
            return Math.min(ran, MOST_TRACED);
        }

        static boolean isUnder(int kind, int top) {
            int at = kind;
            for (int k = 0; k < KINDS && at >= 0 && at < KINDS; k++) {
                if (at == top) {
                    return true;
                }
                at = ABOVE[at];
            }
            return false;
        }

        int perform(int body, int act, int x) {
            ran = 0;
            if (!has(body) || act < 0 || act >= ACTS) {
                return 0;
            }
            actor = body;
            return own(act, x, 0);
        }

        int own(int act, int x, int depth) {
            return runFrom(kinds[actor], act, x, depth);
        }

        /** Runs the first body for the act from a kind on upwards. */
        int runFrom(int kind, int act, int x, int depth) {
            int at = kind;
            for (int k = 0; k < KINDS && at >= 0 && at < KINDS && depth < DEEPEST; k++) {
                int number = OWN_BODIES[at * ACTS + act];
                if (number != 0) {
                    noteBegun(number);
                    return runBody(number, ABOVE[at], x, depth + 1);
                }
                at = ABOVE[at];
            }
            return 0;
        }

        void noteBegun(int number) {
            if (ran < MOST_TRACED) {
                trace[ran] = number;
            }
            ran++;
        }

        int runBody(int number, int above, int x, int depth) {
            switch (number) {
                case 1:
                    return x + actor;
                case 2:
                    return own(HOLDS, x, depth) - own(KNOWS, 1, depth);
                case 10:
                    return own(GIVES, x, depth) * 2;
                case 11:
                    return x ^ actor;
                case 20:
                    return runFrom(above, GIVES, x, depth) + 3;
                case 30:
                    return -runFrom(above, HOLDS, x, depth);
                case 40:
                    return runFrom(above, KNOWS, x, depth) * 3;
                case 41:
                    return runFrom(above, HOLDS, x + 1, depth);
                case 50:
                    return runFrom(above, TELLS, x, depth) ^ 5;
                case 60:
                    return runFrom(above, KNOWS, x, depth) - own(GIVES, 2, depth);
                case 61:
                    return runFrom(above, TELLS, x, depth) + 1;
                case 70:
                    return runFrom(above, GIVES, x, depth) * 2;
                case 80:
                    return runFrom(above, HOLDS, x, depth) + own(KNOWS, 2, depth);
                case 81:
                    return runFrom(above, GIVES, x, depth) - 1;
                default:
                    return 0;
            }
        }
    }

    /** Holds nothing, a body, or a row; the elements' room is made once and used by row after row. */
    private static final class Shelf {
        static final int MOST_ELEMENTS = 60;
        static final int BYTES = 0, SHORTS = 1, INTS = 2, BOOLEANS = 4, NO_ROW = -1;

        final long[] elements = new long[MOST_ELEMENTS];
        int body = NONE;
        int sort = NO_ROW;
        int size;

        boolean isRow() {
            return sort != NO_ROW;
        }

        boolean isEmpty() {
            return sort == NO_ROW && body == NONE;
        }

        void holdBody(int number) {
            body = number;
            sort = NO_ROW;
            size = 0;
        }

        void holdRow(int ofSort, int n) {
            body = NONE;
            sort = ofSort;
            size = n;
            Arrays.fill(elements, 0L);
        }

        boolean hasPlaces(int from, int n) {
            return from >= 0 && n >= 0 && from <= size && n <= size - from;
        }

        void setElement(int i, long v) {
            if (hasPlaces(i, 1)) {
                elements[i] = lowestBits(v);
            }
        }

        long lowestBits(long v) {
            switch (sort) {
                case BYTES:
                    return (byte) v;
                case SHORTS:
                    return (short) v;
                case INTS:
                    return (int) v;
                case BOOLEANS:
                    return v != 0 ? 1 : 0;
                default:
                    return v;
            }
        }
    }
}
