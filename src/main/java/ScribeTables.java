import java.util.Arrays;

/**
 * Letters for others: WRITERS at tables who change what they write and read out, and what PEOPLE
 * come to believe of it. The document (DOC.md) tells each call as a numbered promise.
 */
public final class ScribeTables {
    private static final int BEYOND = -1000001;
    private static final int FULL = BEYOND - 1;
    private static final int KIND = BEYOND - 2;
    private static final int NONE = BEYOND - 3;
    private static final int STATE = BEYOND - 4;
    private static final int MISSING = BEYOND - 5;
    private static final int SIZE = BEYOND - 6;
    private static final int FINDINGS = 7;

    private static final int MARKS = 12;
    private static final int SAYINGS = 4096;
    private static final int HARSH = 0xF00;
    private static final int EVEN = 0x555;

    private static final int PLAIN = 0;
    private static final int SOFT = 1;
    private static final int FORM = 2;
    private static final int POET = 3;
    private static final int CLERK = 4;
    private static final int DEAF = 5;
    private static final int TERSE = 6;
    private static final int KINDS = 7;
    /** For each kind the one that it stands under; -1 for the topmost. */
    private static final int[] UNDER = {-1, PLAIN, PLAIN, SOFT, FORM, PLAIN, FORM};

    private static final int MOST_WRITERS = 6;
    private static final int MOST_PEOPLE = 8;
    private static final int MOST_PRICE = 99;
    private static final int MOST_PENCE = 99999;
    private static final int MOST_BYTES = 120;
    private static final int MOST_NUMBERS = 40;
    private static final int SPOTS = 10;
    private static final int SHEETS = 4;
    private static final int LAST_YEAR = 999;
    private static final int MOST_AHEAD = 60;
    private static final int MOST_ROUNDS = 100;

    private final World live;
    private final World draft;
    private final World kept;
    private boolean isKept;
    private final Tape tape;
    private final TextReader reader;
    private final Sheets sheets;
    private final int[] tally;
    private final int[] been;
    private final int[] reached;

    public ScribeTables() {
        live = new World();
        draft = new World();
        kept = new World();
        tape = new Tape();
        reader = new TextReader(tape, draft);
        sheets = new Sheets();
        tally = new int[FINDINGS];
        been = new int[MOST_ROUNDS + 1];
        reached = new int[SAYINGS / 32];
    }

    // ---- writers, people

    public int writer(int kind) {
        if (!isKind(kind)) return found(BEYOND);
        int number = live.writers.addOne(kind);
        return number < 0 ? found(FULL) : number;
    }

    public int writerOf(int writer, int what) {
        int[] row = live.writers.row(what);
        if (!live.writers.has(writer) || row == null) return found(BEYOND);
        return row[writer];
    }

    public int law(int writer, int what, int v) {
        int[] row = live.writers.row(what);
        if (!live.writers.has(writer) || row == null || !isLaw(what, v)) return found(BEYOND);
        int was = row[writer];
        row[writer] = v;
        return was;
    }

    public int person(int writer) {
        if (!live.writers.has(writer)) return found(BEYOND);
        int number = live.people.addOne(writer);
        return number < 0 ? found(FULL) : number;
    }

    public int of(int person, int what) {
        if (!live.people.has(person)) return found(BEYOND);
        if (what == 5) return live.people.lies(person);
        int[] row = live.people.row(what);
        return row == null ? found(BEYOND) : row[person];
    }

    public int change(int person, int what, int v) {
        int[] row = live.people.row(what);
        if (!live.people.has(person) || row == null || !isOfPerson(what, v)) return found(BEYOND);
        int was = row[person];
        row[person] = v;
        return was;
    }

    public int tie(int one, int other, boolean is) {
        if (!live.people.areTwo(one, other)) return found(BEYOND);
        int was = live.people.isTied(one, other) ? 1 : 0;
        live.people.bind(one, other, is);
        return was;
    }

    public int ties(int person) {
        if (!live.people.has(person)) return found(BEYOND);
        return live.people.tied[person];
    }

    // ---- letters

    public int puts(int writer, int saying) {
        if (!live.writers.has(writer) || !isSaying(saying)) return found(BEYOND);
        return live.writers.make(writer, saying);
    }

    public int says(int person) {
        if (!live.people.has(person)) return found(BEYOND);
        return live.people.ownWords(person);
    }

    public int read(int from, int to, int saying) {
        if (!live.people.areTwo(from, to) || !isSaying(saying)) return found(BEYOND);
        return live.heard(to, live.heard(from, saying));
    }

    public int send(int from, int to, int saying) {
        if (!live.people.areTwo(from, to) || !isSaying(saying)) return found(BEYOND);
        int told = live.letter(from, to, saying);
        return told < 0 ? found(STATE) : told;
    }

    public int years(int n) {
        if (n < 1 || n > 30) return found(BEYOND);
        if (!live.hasYears(n)) return found(STATE);
        int before = live.sent;
        live.passYears(n);
        return live.sent - before;
    }

    public int now(int what) {
        switch (what) {
            case 0: return live.year;
            case 1: return live.sent;
            case 2: return live.people.howManyTies();
            case 3: return live.people.anyOf(live.people.truth);
            case 4: return live.people.anyOf(live.people.beliefs);
            case 5: return live.people.allPence() + live.writers.allPurses();
            default: return found(BEYOND);
        }
    }

    public int who(int mark) {
        if (!isMark(mark)) return found(BEYOND);
        return live.people.believers(mark);
    }

    // ---- ahead

    public int ahead(int n, int what) {
        if (!isAhead(n) || what < 0 || what >= 3 + live.people.size) return found(BEYOND);
        if (!live.hasYears(n)) return found(STATE);
        draft.become(live);
        draft.passYears(n);
        switch (what) {
            case 0: return draft.sent - live.sent;
            case 1: return draft.poor();
            case 2: return draft.people.believedByAll();
            default: return draft.people.beliefs[what - 3];
        }
    }

    public int when(int person, int mark) {
        if (!live.people.has(person) || !isMark(mark)) return found(BEYOND);
        if (!live.hasYears(MOST_AHEAD)) return found(STATE);
        draft.become(live);
        for (int y = 0; y <= MOST_AHEAD; y++) {
            if ((draft.people.beliefs[person] & (1 << mark)) != 0) return y;
            draft.passYears(1);
        }
        return found(NONE);
    }

    public int without(int writer, int mark, int n) {
        if (!live.writers.has(writer) || !isMark(mark) || !isAhead(n)) return found(BEYOND);
        if (!live.hasYears(n)) return found(STATE);
        return believersWithout(writer, mark, n);
    }

    public int added(int mark, int n) {
        if (!isMark(mark) || !isAhead(n)) return found(BEYOND);
        if (!live.hasYears(n)) return found(STATE);
        draft.become(live);
        draft.passYears(n);
        int asItIs = Integer.bitCount(draft.people.believers(mark));
        int set = 0;
        for (int w = 0; w < live.writers.size; w++) {
            if (Integer.bitCount(believersWithout(w, mark, n)) < asItIs) set |= 1 << w;
        }
        return set;
    }

    public int best(int person, int other, int n) {
        if (!live.people.areTwo(person, other) || !isAhead(n)) return found(BEYOND);
        if (!live.hasYears(n)) return found(STATE);
        int best = 0;
        int most = -1;
        for (int w = 0; w < live.writers.size; w++) {
            draft.become(live);
            draft.people.writer[person] = w;
            draft.passYears(n);
            int believed = Integer.bitCount(draft.people.truth[person] & draft.people.beliefs[other]);
            if (believed > most) {
                most = believed;
                best = w;
            }
        }
        return best;
    }

    public int bridge(int mark, int n) {
        if (!isMark(mark) || !isAhead(n)) return found(BEYOND);
        if (!live.hasYears(n)) return found(STATE);
        int best = -1;
        int most = -1;
        for (int one = 0; one < live.people.size; one++) {
            for (int other = one + 1; other < live.people.size; other++) {
                if (live.people.isTied(one, other)) continue;
                int believe = howManyWithTie(one, other, mark, n);
                if (believe > most) {
                    most = believe;
                    best = 10 * one + other;
                }
            }
        }
        return best < 0 ? found(NONE) : best;
    }

    // ---- what was said

    public int many(int writer, int written) {
        if (!live.writers.has(writer) || !isSaying(written)) return found(BEYOND);
        return live.writers.waysTo(writer, written);
    }

    public int said(int writer, int written, int what) {
        if (!live.writers.has(writer) || !isSaying(written) || what < 0 || what > 2) return found(BEYOND);
        int least = -1;
        int inAll = SAYINGS - 1;
        int inAny = 0;
        for (int s = 0; s < SAYINGS; s++) {
            if (live.writers.make(writer, s) != written) continue;
            if (least < 0) least = s;
            inAll &= s;
            inAny |= s;
        }
        if (least < 0) return found(NONE);
        if (what == 0) return least;
        return what == 1 ? inAll : inAny;
    }

    public int hands(int written) {
        if (!isSaying(written)) return found(BEYOND);
        int set = 0;
        for (int w = 0; w < live.writers.size; w++) {
            if (live.writers.waysTo(w, written) > 0) set |= 1 << w;
        }
        return set;
    }

    public int likeliest(int written) {
        if (!isSaying(written)) return found(BEYOND);
        int best = -1;
        int most = 0;
        for (int w = 0; w < live.writers.size; w++) {
            int ways = live.writers.waysTo(w, written);
            if (ways > most) {
                most = ways;
                best = w;
            }
        }
        return best < 0 ? found(NONE) : best;
    }

    public int near(int writer, int saying, int written) {
        if (!live.writers.has(writer) || !isSaying(saying) || !isSaying(written)) return found(BEYOND);
        int fewest = MARKS + 1;
        for (int s = 0; s < SAYINGS; s++) {
            if (live.writers.make(writer, s) == written) fewest = Math.min(fewest, Integer.bitCount(s ^ saying));
        }
        return fewest > MARKS ? found(NONE) : fewest;
    }

    public int honest(int writer) {
        if (!live.writers.has(writer)) return found(BEYOND);
        int same = 0;
        for (int s = 0; s < SAYINGS; s++) {
            if (live.writers.make(writer, s) == s) same++;
        }
        return same;
    }

    public int round(int saying, int n) {
        if (!isSaying(saying) || n < 0 || n > 20) return found(BEYOND);
        int s = saying;
        for (int i = 0; i < n; i++) s = live.writers.onceRound(s);
        return s;
    }

    public int settles(int saying) {
        if (!isSaying(saying)) return found(BEYOND);
        int s = saying;
        been[0] = s;
        for (int r = 1; r <= MOST_ROUNDS; r++) {
            s = live.writers.onceRound(s);
            for (int i = 0; i < r; i++) {
                if (been[i] == s) return r;
            }
            been[r] = s;
        }
        return found(NONE);
    }

    // ---- the court, prices, school

    public int court(int writer, int reader, int saying) {
        if (!live.writers.has(writer) || !live.writers.has(reader) || !isSaying(saying)) return found(BEYOND);
        int back = live.writers.make(reader, live.writers.make(writer, saying));
        return Integer.bitCount(saying & ~back) + 100 * Integer.bitCount(back & ~saying);
    }

    public int witness(int writer) {
        if (!live.writers.has(writer)) return found(BEYOND);
        int best = 0;
        int fewest = SAYINGS + 1;
        for (int r = 0; r < live.writers.size; r++) {
            int otherwise = 0;
            for (int s = 0; s < SAYINGS; s++) {
                if (live.writers.make(r, live.writers.make(writer, s)) != s) otherwise++;
            }
            if (otherwise < fewest) {
                fewest = otherwise;
                best = r;
            }
        }
        return best;
    }

    public int price(int writer, int n) {
        if (!live.writers.has(writer) || n < 1 || n > 20) return found(BEYOND);
        if (!live.hasYears(n)) return found(STATE);
        int best = 0;
        int most = -1;
        for (int p = 0; p <= MOST_PRICE; p++) {
            draft.become(live);
            draft.writers.price[writer] = p;
            draft.passYears(n);
            if (draft.writers.purse[writer] > most) {
                most = draft.writers.purse[writer];
                best = p;
            }
        }
        return best;
    }

    public int school(int n) {
        if (n < 2 || n > MOST_PEOPLE) return found(BEYOND);
        if (!live.hasYears(1)) return found(STATE);
        draft.become(live);
        draft.passYears(1);
        int asItIs = draft.paid;
        draft.become(live);
        for (int p = 0; p < draft.people.size; p += n) draft.people.lettered[p] = 1;
        draft.passYears(1);
        return asItIs - draft.paid;
    }

    public int gossip(int n) {
        if (n < 1 || n > 12) return found(BEYOND);
        int size = live.people.size;
        if (size < 1) return found(STATE);
        for (int i = 0; i < n; i++) {
            int person = live.draw() % size;
            live.people.beliefs[person] |= 1 << (live.draw() % MARKS);
        }
        return live.people.anyOf(live.people.beliefs);
    }

    public int seed(int v) {
        int was = live.z;
        live.z = v;
        return was;
    }

    // ---- texts

    public int feed(int bytes, int n) {
        if (n < 1 || n > 4) return found(BEYOND);
        if (tape.size + n > MOST_BYTES) return found(FULL);
        tape.take(bytes, n);
        return tape.size;
    }

    public int wipe() {
        int had = tape.size;
        tape.size = 0;
        return had;
    }

    public int text() {
        draft.become(live);
        int answer = reader.wholeText();
        if (answer >= 0) live.become(draft);
        tape.size = 0;
        return answer;
    }

    // ---- spots, sheets

    public int hold(int spot, int writer) {
        if (!isSpot(spot) || (writer != -1 && !live.writers.has(writer))) return found(BEYOND);
        live.spots[spot] = writer;
        return 1;
    }

    public int as(int spot, int kind) {
        if (!isSpot(spot) || !isKind(kind)) return found(BEYOND);
        int held = live.spots[spot];
        if (!live.writers.has(held)) return found(MISSING);
        return isUnder(live.writers.kind[held], kind) ? held : found(KIND);
    }

    public int sheet(int s, int bits, int n) {
        if (!isSheet(s) || !isWidth(bits)) return found(BEYOND);
        if (n < 0) return found(SIZE);
        if (n > MOST_NUMBERS) return found(BEYOND);
        return sheets.lay(s, bits, n);
    }

    public int write(int s, int i, int v) {
        if (!isSheet(s)) return found(BEYOND);
        if (sheets.isMissing(s)) return found(MISSING);
        if (i < 0 || i >= sheets.size[s]) return found(BEYOND);
        sheets.note(s, i, v);
        return 1;
    }

    public int copy(int s, int from, int t, int to, int n) {
        if (!isSheet(s) || !isSheet(t)) return found(BEYOND);
        if (sheets.isMissing(s) || sheets.isMissing(t)) return found(MISSING);
        if (sheets.bits[s] != sheets.bits[t]) return found(KIND);
        if (!sheets.hasFrom(s, from, n) || !sheets.hasFrom(t, to, n)) return found(BEYOND);
        sheets.move(s, from, t, to, n);
        return n;
    }

    public int load(int s) {
        if (!isSheet(s)) return found(BEYOND);
        if (sheets.isMissing(s)) return found(MISSING);
        int most = Math.min(sheets.size[s], live.people.size);
        for (int i = 0; i < most; i++) {
            int v = sheets.number(s, i);
            if (!isSaying(v)) return i;
            live.people.truth[i] = v;
        }
        return most;
    }

    public int judge(int s, int writer) {
        if (!isSheet(s)) return found(BEYOND);
        if (sheets.isMissing(s)) return found(MISSING);
        if (!live.writers.has(writer)) return found(BEYOND);
        live.writers.reach(writer, reached);
        for (int i = 0; i < sheets.size[s]; i++) {
            int v = sheets.number(s, i);
            if (!isSaying(v) || (reached[v >> 5] & (1 << (v & 31))) == 0) return 1 + i;
        }
        return 0;
    }

    // ---- images

    public int image() {
        kept.become(live);
        isKept = true;
        return 1;
    }

    public int undo() {
        if (!isKept) return found(NONE);
        live.become(kept);
        return live.year;
    }

    public int tear() {
        int was = isKept ? 1 : 0;
        isKept = false;
        return was;
    }

    public int count(int what) {
        switch (what) {
            case 0: return live.writers.size;
            case 1: return live.people.size;
            case 2: return live.people.howManyLettered();
            case 3: return live.writers.allPurses();
            case 4: return live.people.howManyLies();
            case 5: return tape.size;
            case 6: return live.z;
            case 7: return live.howManySpots();
            default: return found(BEYOND);
        }
    }

    public int status(int which) {
        if (which >= 0 && which < FINDINGS) return tally[which];
        if (which != -1) return found(BEYOND);
        int all = 0;
        for (int i = 0; i < FINDINGS; i++) all += tally[i];
        return all;
    }

    // ---- what the calls share

    /** Every finding goes out through here, so that status() misses none. */
    private int found(int finding) {
        int place = BEYOND - finding;
        if (place >= 0 && place < FINDINGS) tally[place]++;
        return finding;
    }

    private int believersWithout(int w, int mark, int n) {
        draft.become(live);
        draft.writers.adds[w] = 0;
        draft.passYears(n);
        return draft.people.believers(mark);
    }

    private int howManyWithTie(int one, int other, int mark, int n) {
        draft.become(live);
        draft.people.bind(one, other, true);
        draft.passYears(n);
        return Integer.bitCount(draft.people.believers(mark));
    }

    private static boolean isLaw(int what, int v) {
        switch (what) {
            case 0: return isKind(v);
            case 1:
            case 2:
            case 3: return isSaying(v);
            case 4: return v >= 0 && v <= MOST_PRICE;
            default: return false;
        }
    }

    private boolean isOfPerson(int what, int v) {
        switch (what) {
            case 0:
            case 1: return isSaying(v);
            case 2: return live.writers.has(v);
            case 3: return v >= 0 && v <= MOST_PENCE;
            case 4: return v == 0 || v == 1;
            default: return false;
        }
    }

    private static boolean isKind(int k) {
        return k >= 0 && k < KINDS;
    }

    private static boolean isUnder(int kind, int wanted) {
        int k = kind;
        for (int i = 0; i < KINDS && isKind(k); i++) {
            if (k == wanted) return true;
            k = UNDER[k];
        }
        return false;
    }

    private static boolean isSaying(int s) {
        return s >= 0 && s < SAYINGS;
    }

    private static boolean isMark(int m) {
        return m >= 0 && m < MARKS;
    }

    private static boolean isAhead(int n) {
        return n >= 0 && n <= MOST_AHEAD;
    }

    private static boolean isSpot(int spot) {
        return spot >= 0 && spot < SPOTS;
    }

    private static boolean isSheet(int s) {
        return s >= 0 && s < SHEETS;
    }

    private static boolean isWidth(int bits) {
        return bits == 0 || bits == 8 || bits == 16 || bits == 32;
    }

    /** The WRITERS and what they make of a SAYING. */
    private static final class Writers {
        int size;
        final int[] kind;
        final int[] cuts;
        final int[] adds;
        final int[] when;
        final int[] price;
        final int[] purse;

        Writers() {
            kind = new int[MOST_WRITERS];
            cuts = new int[MOST_WRITERS];
            adds = new int[MOST_WRITERS];
            when = new int[MOST_WRITERS];
            price = new int[MOST_WRITERS];
            purse = new int[MOST_WRITERS];
        }

        void become(Writers other) {
            size = other.size;
            System.arraycopy(other.kind, 0, kind, 0, MOST_WRITERS);
            System.arraycopy(other.cuts, 0, cuts, 0, MOST_WRITERS);
            System.arraycopy(other.adds, 0, adds, 0, MOST_WRITERS);
            System.arraycopy(other.when, 0, when, 0, MOST_WRITERS);
            System.arraycopy(other.price, 0, price, 0, MOST_WRITERS);
            System.arraycopy(other.purse, 0, purse, 0, MOST_WRITERS);
        }

        boolean has(int w) {
            return w >= 0 && w < size;
        }

        /** The number of the new one, or -1 where there is no table for it. */
        int addOne(int ofKind) {
            if (size >= MOST_WRITERS) return -1;
            int w = size;
            size++;
            kind[w] = ofKind;
            cuts[w] = 0;
            adds[w] = 0;
            when[w] = 0;
            price[w] = 4;
            purse[w] = 0;
            return w;
        }

        /** The row by the number that the calls know it by, or null. */
        int[] row(int what) {
            switch (what) {
                case 0: return kind;
                case 1: return cuts;
                case 2: return adds;
                case 3: return when;
                case 4: return price;
                case 5: return purse;
                default: return null;
            }
        }

        int make(int w, int saying) {
            if (!has(w)) return saying;
            switch (kind[w]) {
                case SOFT: return softened(plain(w, saying));
                case FORM: return least(plain(w, saying), 4);
                case POET: return softened(plain(w, saying)) | adds[w];
                case CLERK: return least(plain(w, saying), 4) | 1;
                case DEAF: return plain(w, saying & EVEN);
                case TERSE: return least(plain(w, saying), 2);
                default: return plain(w, saying);
            }
        }

        private int plain(int w, int saying) {
            int left = saying & ~cuts[w];
            // WHEN is asked of what was said, not of what the cuts left of it
            return (saying & when[w]) != 0 ? left | adds[w] : left;
        }

        private static int softened(int saying) {
            return (saying & ~HARSH) | ((saying & HARSH) >> 4);
        }

        private static int least(int saying, int howMany) {
            int rest = saying;
            for (int i = 0; i < howMany; i++) rest &= rest - 1;
            return saying & ~rest;
        }

        int onceRound(int saying) {
            int s = saying;
            for (int w = 0; w < size; w++) s = make(w, s);
            return s;
        }

        /** How many SAYINGS come out as a set. */
        int waysTo(int w, int written) {
            int ways = 0;
            for (int s = 0; s < SAYINGS; s++) {
                if (make(w, s) == written) ways++;
            }
            return ways;
        }

        /** All that can come out, as bits: 32 sets to a number. */
        void reach(int w, int[] bits) {
            Arrays.fill(bits, 0);
            for (int s = 0; s < SAYINGS; s++) {
                int written = make(w, s);
                int place = written >> 5;
                if (place >= 0 && place < bits.length) bits[place] |= 1 << (written & 31);
            }
        }

        int allPurses() {
            int all = 0;
            for (int w = 0; w < size; w++) all += purse[w];
            return all;
        }
    }

    /** PEOPLE and their TIES. */
    private static final class People {
        int size;
        final int[] truth;
        final int[] beliefs;
        final int[] writer;
        final int[] pence;
        final int[] lettered;
        /** For each person the others of its TIES, as a set. */
        final int[] tied;

        People() {
            truth = new int[MOST_PEOPLE];
            beliefs = new int[MOST_PEOPLE];
            writer = new int[MOST_PEOPLE];
            pence = new int[MOST_PEOPLE];
            lettered = new int[MOST_PEOPLE];
            tied = new int[MOST_PEOPLE];
        }

        void become(People other) {
            size = other.size;
            System.arraycopy(other.truth, 0, truth, 0, MOST_PEOPLE);
            System.arraycopy(other.beliefs, 0, beliefs, 0, MOST_PEOPLE);
            System.arraycopy(other.writer, 0, writer, 0, MOST_PEOPLE);
            System.arraycopy(other.pence, 0, pence, 0, MOST_PEOPLE);
            System.arraycopy(other.lettered, 0, lettered, 0, MOST_PEOPLE);
            System.arraycopy(other.tied, 0, tied, 0, MOST_PEOPLE);
        }

        boolean has(int p) {
            return p >= 0 && p < size;
        }

        boolean areTwo(int one, int other) {
            return has(one) && has(other) && one != other;
        }

        /** The number of the new one, or -1 where there is no room. */
        int addOne(int byWriter) {
            if (size >= MOST_PEOPLE) return -1;
            int p = size;
            size++;
            truth[p] = 0;
            beliefs[p] = 0;
            writer[p] = byWriter;
            pence[p] = 100;
            lettered[p] = 0;
            tied[p] = 0;
            return p;
        }

        /** The row by the number that the calls know it by, or null. */
        int[] row(int what) {
            switch (what) {
                case 0: return truth;
                case 1: return beliefs;
                case 2: return writer;
                case 3: return pence;
                case 4: return lettered;
                default: return null;
            }
        }

        boolean isTied(int one, int other) {
            return (tied[one] & (1 << other)) != 0;
        }

        void bind(int one, int other, boolean is) {
            if (is) {
                tied[one] |= 1 << other;
                tied[other] |= 1 << one;
            } else {
                tied[one] &= ~(1 << other);
                tied[other] &= ~(1 << one);
            }
        }

        int howManyTies() {
            int ends = 0;
            for (int p = 0; p < size; p++) ends += Integer.bitCount(tied[p]);
            return ends / 2;
        }

        int ownWords(int p) {
            return truth[p] | beliefs[p];
        }

        /** MARKS that anybody has in a row. */
        int anyOf(int[] row) {
            int set = 0;
            for (int p = 0; p < size && p < row.length; p++) set |= row[p];
            return set;
        }

        int believedByAll() {
            if (size == 0) return 0;
            int set = SAYINGS - 1;
            for (int p = 0; p < size; p++) set &= beliefs[p];
            return set;
        }

        int believers(int mark) {
            int set = 0;
            for (int p = 0; p < size; p++) {
                if ((beliefs[p] & (1 << mark)) != 0) set |= 1 << p;
            }
            return set;
        }

        int lies(int p) {
            return beliefs[p] & ~anyOf(truth);
        }

        int howManyLies() {
            int so = anyOf(truth);
            int all = 0;
            for (int p = 0; p < size; p++) all += Integer.bitCount(beliefs[p] & ~so);
            return all;
        }

        int howManyLettered() {
            int all = 0;
            for (int p = 0; p < size; p++) all += lettered[p];
            return all;
        }

        int allPence() {
            int all = 0;
            for (int p = 0; p < size; p++) all += pence[p];
            return all;
        }
    }

    /** All that an image keeps: one is lived in, one tried out, one kept. */
    private static final class World {
        final Writers writers;
        final People people;
        final int[] spots;
        int year;
        int sent;
        int z;
        /** How often a WRITER has been paid since this world became as another. */
        int paid;

        World() {
            writers = new Writers();
            people = new People();
            spots = new int[SPOTS];
            Arrays.fill(spots, -1);
            z = 1;
        }

        void become(World other) {
            writers.become(other.writers);
            people.become(other.people);
            System.arraycopy(other.spots, 0, spots, 0, SPOTS);
            year = other.year;
            sent = other.sent;
            z = other.z;
            paid = 0;
        }

        boolean hasYears(int n) {
            return year + n <= LAST_YEAR;
        }

        /** What a SAYING becomes on its way through a person, writing or being read to. */
        int heard(int p, int saying) {
            return people.lettered[p] != 0 ? saying : writers.make(people.writer[p], saying);
        }

        /** What one letter costs a person. */
        int fee(int p) {
            int w = people.writer[p];
            return people.lettered[p] != 0 || !writers.has(w) ? 0 : writers.price[w];
        }

        void pay(int p) {
            int w = people.writer[p];
            if (people.lettered[p] != 0 || !writers.has(w)) return;
            people.pence[p] -= writers.price[w];
            writers.purse[w] += writers.price[w];
            paid++;
        }

        /** What is READ, or -1 where one can't pay and there is no LETTER. */
        int letter(int from, int to, int saying) {
            if (people.pence[from] < fee(from) || people.pence[to] < fee(to)) return -1;
            pay(from);
            pay(to);
            int told = heard(to, heard(from, saying));
            people.beliefs[to] |= told;
            sent++;
            return told;
        }

        void passYears(int n) {
            for (int i = 0; i < n; i++) {
                int before = sent;
                passOne();
                // a year without a LETTER changes nothing, so those behind it are like it
                if (sent == before) break;
            }
            year += n;
        }

        private void passOne() {
            for (int one = 0; one < people.size; one++) {
                for (int other = one + 1; other < people.size; other++) {
                    if (!people.isTied(one, other)) continue;
                    letter(one, other, people.ownWords(one));
                    letter(other, one, people.ownWords(other));
                }
            }
        }

        /** Those who can't pay for a LETTER, as a set. */
        int poor() {
            int set = 0;
            for (int p = 0; p < people.size; p++) {
                if (people.pence[p] < fee(p)) set |= 1 << p;
            }
            return set;
        }

        int howManySpots() {
            int held = 0;
            for (int i = 0; i < SPOTS; i++) {
                if (spots[i] >= 0) held++;
            }
            return held;
        }

        int draw() {
            z = z * 1103515245 + 12345;
            return z >>> 8;
        }
    }

    /** THE TAPE, and the TOKEN of it that stands next. */
    private static final class Tape {
        private static final int WORD = 1;
        private static final int NUMBER = 2;
        private static final int SIGN = 3;
        private static final int END = 4;
        private static final int NO_TOKEN = 5;

        final int[] bytes;
        int size;
        int place;
        int value;
        private int behind;
        private int sort;

        Tape() {
            bytes = new int[MOST_BYTES];
        }

        void take(int number, int n) {
            for (int i = n - 1; i >= 0 && size < MOST_BYTES; i--) {
                bytes[size] = (number >>> (8 * i)) & 255;
                size++;
            }
        }

        void rewind() {
            behind = 0;
            step();
        }

        /** Goes on to the next TOKEN; from what begins none it never goes on. */
        void step() {
            while (behind < size && bytes[behind] == ' ') behind++;
            place = behind;
            if (behind >= size) {
                sort = END;
            } else if (isLetter(bytes[behind])) {
                takeWord();
            } else if (isDigit(bytes[behind])) {
                takeNumber();
            } else if (bytes[behind] == ';') {
                sort = SIGN;
                behind++;
            } else {
                sort = NO_TOKEN;
            }
        }

        private void takeWord() {
            sort = WORD;
            while (behind < size && isLetter(bytes[behind])) behind++;
        }

        private void takeNumber() {
            sort = NUMBER;
            value = 0;
            while (behind < size && isDigit(bytes[behind])) {
                // beyond the most it stays there: longer rows of digits must not wrap around
                value = Math.min(10 * value + bytes[behind] - '0', MOST_PENCE + 1);
                behind++;
            }
        }

        boolean isAtEnd() {
            return sort == END;
        }

        boolean isSign() {
            return sort == SIGN;
        }

        boolean isNumber() {
            return sort == NUMBER;
        }

        boolean isNumberUpTo(int most) {
            return sort == NUMBER && value <= most;
        }

        boolean isWord(String word) {
            if (sort != WORD || behind - place != word.length()) return false;
            for (int i = 0; i < word.length(); i++) {
                if (bytes[place + i] != word.charAt(i)) return false;
            }
            return true;
        }

        private static boolean isLetter(int b) {
            return b >= 'a' && b <= 'z';
        }

        private static boolean isDigit(int b) {
            return b >= '0' && b <= '9';
        }
    }

    /**
     * Reads a TEXT into a world. Each part answers false with the tape at the TOKEN that can't
     * stand there, so that the tape's place is the FAULT.
     */
    private static final class TextReader {
        private final Tape tape;
        private final World world;

        TextReader(Tape tape, World world) {
            this.tape = tape;
            this.world = world;
        }

        /** How many ITEMS, or -1 less the FAULT; the world is of no use then. */
        int wholeText() {
            tape.rewind();
            for (int items = 1; items <= MOST_BYTES; items++) {
                if (!item()) break;
                if (tape.isAtEnd()) return items;
                if (!tape.isSign()) break;
                tape.step();
            }
            return -1 - tape.place;
        }

        private boolean item() {
            if (tape.isWord("person")) return newPerson();
            if (tape.isWord("tie")) return newTie();
            int kind = kindOfWord();
            return kind >= 0 && newWriter(kind);
        }

        private int kindOfWord() {
            if (tape.isWord("writer")) return PLAIN;
            if (tape.isWord("soft")) return SOFT;
            if (tape.isWord("form")) return FORM;
            if (tape.isWord("poet")) return POET;
            if (tape.isWord("clerk")) return CLERK;
            if (tape.isWord("deaf")) return DEAF;
            if (tape.isWord("terse")) return TERSE;
            return -1;
        }

        private boolean newWriter(int kind) {
            Writers writers = world.writers;
            int w = writers.addOne(kind);
            if (w < 0) return false;
            tape.step();
            return perhapsMarks("cuts", writers.cuts, w)
                && perhapsMarks("adds", writers.adds, w)
                && perhapsMarks("when", writers.when, w)
                && perhapsNumber("price", MOST_PRICE, writers.price, w);
        }

        private boolean newPerson() {
            People people = world.people;
            // asked before the rest of the ITEM: a 9th person is a FAULT at its own WORD
            if (people.size >= MOST_PEOPLE) return false;
            tape.step();
            if (!tape.isWord("by")) return false;
            tape.step();
            if (!tape.isNumberUpTo(world.writers.size - 1)) return false;
            int p = people.addOne(tape.value);
            if (p < 0) return false;
            tape.step();
            return perhapsMarks("truth", people.truth, p)
                && perhapsNumber("pence", MOST_PENCE, people.pence, p);
        }

        private boolean newTie() {
            int last = world.people.size - 1;
            tape.step();
            if (!tape.isNumberUpTo(last)) return false;
            int one = tape.value;
            tape.step();
            if (!tape.isNumberUpTo(last) || tape.value == one) return false;
            world.people.bind(one, tape.value, true);
            tape.step();
            return true;
        }

        private boolean perhapsMarks(String word, int[] row, int i) {
            if (!tape.isWord(word)) return true;
            tape.step();
            if (!tape.isNumber()) return false;
            int set = 0;
            for (int n = 0; n < MOST_BYTES && tape.isNumber(); n++) {
                if (!tape.isNumberUpTo(MARKS - 1)) return false;
                set |= 1 << tape.value;
                tape.step();
            }
            row[i] = set;
            return true;
        }

        private boolean perhapsNumber(String word, int most, int[] row, int i) {
            if (!tape.isWord(word)) return true;
            tape.step();
            if (!tape.isNumberUpTo(most)) return false;
            row[i] = tape.value;
            tape.step();
            return true;
        }
    }

    /** The SHEETS, laid end to end in one row. */
    private static final class Sheets {
        /** 0 where a sheet is MISSING. */
        final int[] bits;
        final int[] size;
        private final int[] numbers;

        Sheets() {
            bits = new int[SHEETS];
            size = new int[SHEETS];
            numbers = new int[SHEETS * MOST_NUMBERS];
        }

        boolean isMissing(int s) {
            return bits[s] == 0;
        }

        /** How many numbers it has then. */
        int lay(int s, int width, int n) {
            bits[s] = width;
            size[s] = width == 0 ? 0 : n;
            for (int i = 0; i < MOST_NUMBERS; i++) numbers[s * MOST_NUMBERS + i] = 0;
            return size[s];
        }

        int number(int s, int i) {
            return numbers[s * MOST_NUMBERS + i];
        }

        void note(int s, int i, int v) {
            int cut = v;
            if (bits[s] == 8) cut = (byte) v;
            if (bits[s] == 16) cut = (short) v;
            numbers[s * MOST_NUMBERS + i] = cut;
        }

        boolean hasFrom(int s, int from, int n) {
            // taken apart so that no sum can wrap around
            return from >= 0 && n >= 0 && n <= size[s] && from <= size[s] - n;
        }

        void move(int s, int from, int t, int to, int n) {
            System.arraycopy(numbers, s * MOST_NUMBERS + from, numbers, t * MOST_NUMBERS + to, n);
        }
    }
}
