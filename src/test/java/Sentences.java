import java.util.ArrayList;
import java.util.Arrays;
import java.util.List;

/**
 * What the edge tests share: each names a sentence of the document, the answers that are due by it,
 * the calls that are refused by it, and those that change nothing.
 */
abstract class Sentences {
    static final int BEYOND = -1000001, FULL = -1000002, KIND = -1000003, NONE = -1000004,
        STATE = -1000005, MISSING = -1000006, SIZE = -1000007;
    static final int PLAIN = 0, SOFT = 1, FORM = 2, POET = 3, CLERK = 4, DEAF = 5, TERSE = 6;
    static final int TRUTH = 0, BELIEFS = 1, WRITER = 2, PENCE = 3, LETTERED = 4, LIES = 5;
    static final int CUTS = 1, ADDS = 2, WHEN = 3, PRICE = 4, PURSE = 5;
    static final int LEAST = Integer.MIN_VALUE, MOST = Integer.MAX_VALUE;

    /** One call on an object. */
    interface Call {
        int on(ScribeTables x);
    }

    /** One call on an object, with one argument of several that are tried. */
    interface CallOf {
        int on(ScribeTables x, int v);
    }

    /** How an object comes to be; two that are made so are alike. */
    interface Made {
        ScribeTables make();
    }

    private static String words = "";
    private static int row = 0;
    private static int wrong = 0;

    Sentences() { }

    static void sentence(String ofTheDocument) {
        words = ofTheDocument;
        row = 0;
    }

    private static void tell(String what) {
        wrong++;
        System.out.println("\"" + words + "\", row " + row + ": " + what);
    }

    static void due(int got, int want) {
        row++;
        if (got != want) tell("answered " + got + ", due is " + want);
    }

    /** Calls that must all answer the same. */
    static void all(int want, int... got) {
        for (int g : got) due(g, want);
    }

    /** What a row of answers is to be, place by place. */
    static void each(int[] want, int... got) {
        due(got.length, want.length);
        for (int i = 0; i < got.length && i < want.length; i++) due(got[i], want[i]);
    }

    static void end(String whose) {
        System.out.println(wrong == 0 ? whose + ": all sentences hold" : whose + ": " + wrong + " answers are not as due");
        if (wrong != 0) System.exit(1);
    }

    // ---- calls that change nothing

    /** Each call answers the finding, which status() counts once, and nothing else has changed. */
    static void refused(int finding, Made made, Call... calls) {
        for (Call call : calls) {
            ScribeTables x = made.make();
            int[] before = statuses(x);
            due(call.on(x), finding);
            int[] after = statuses(x);
            for (int i = 0; i < before.length; i++) {
                int more = i == 0 || i == 1 + BEYOND - finding ? 1 : 0;
                if (after[i] != before[i] + more) tell("status(" + (i - 1) + ") was " + before[i] + ", and is " + after[i]);
            }
            alike(x, made.make());
        }
    }

    /** A call that is refused for each of several numbers. */
    static void refusedFor(int[] numbers, int finding, Made made, CallOf call) {
        for (int v : numbers) refused(finding, made, x -> call.on(x, v));
    }

    /** The next ones on both sides of what is allowed, the farthest, and such as would be inside if some bits were lost. */
    static int[] outside(int least, int most) {
        int[] all = {least - 1, most + 1, LEAST, MOST, least - 32, least + 32, most - 256, most + 256,
            least - 65536, most + 65536, LEAST + least, LEAST + most};
        return Arrays.stream(all).filter(v -> v < least || v > most).distinct().toArray();
    }

    /** No call answers a finding, none changes anything, status() neither. */
    static void changesNothing(Made made, Call... calls) {
        for (Call call : calls) {
            ScribeTables x = made.make();
            int[] before = statuses(x);
            int got = call.on(x);
            row++;
            if (got < -1000000) tell("answered the finding " + got);
            int[] after = statuses(x);
            for (int i = 0; i < before.length; i++) {
                if (after[i] != before[i]) tell("status(" + (i - 1) + ") was " + before[i] + ", and is " + after[i]);
            }
            alike(x, made.make());
        }
    }

    private static int[] statuses(ScribeTables x) {
        int[] all = new int[8];
        for (int i = 0; i < 8; i++) all[i] = x.status(i - 1);
        return all;
    }

    private static void alike(ScribeTables x, ScribeTables twin) {
        List<Integer> one = allOf(x);
        List<Integer> other = allOf(twin);
        if (one.size() > 350) tell("the test itself makes too many calls: " + one.size());
        for (int i = 0; i < Math.max(one.size(), other.size()); i++) {
            if (i < one.size() && i < other.size() && one.get(i).equals(other.get(i))) continue;
            tell("something has changed: answer " + i + " of those that tell all there is");
            return;
        }
    }

    /** All that can be learned of an object; it is used up by that. */
    private static List<Integer> allOf(ScribeTables x) {
        List<Integer> seen = new ArrayList<>();
        world(x, seen);
        seen.add(x.text());
        int last = x.count(0) - 1;
        for (int i = 0; i < 6; i++) seen.add(x.writerOf(last, i));
        seen.add(x.now(2));
        // numbers of sheets are seen as somebody's TRUTH
        seen.add(x.writer(PLAIN));
        seen.add(x.person(0));
        for (int s = 0; s < 4; s++) numbers(x, s, seen);
        seen.add(x.undo());
        world(x, seen);
        seen.add(x.tear());
        return seen;
    }

    private static void world(ScribeTables x, List<Integer> seen) {
        for (int i = 0; i < 8; i++) seen.add(x.count(i));
        for (int i = 0; i < 6; i++) seen.add(x.now(i));
        for (int w = 0; w < x.count(0); w++) for (int i = 0; i < 6; i++) seen.add(x.writerOf(w, i));
        for (int p = 0; p < x.count(1); p++) for (int i = 0; i < 5; i++) seen.add(x.of(p, i));
        for (int p = 0; p < x.count(1); p++) seen.add(x.ties(p));
        for (int i = 0; i < 10; i++) seen.add(x.as(i, PLAIN));
    }

    private static void numbers(ScribeTables x, int s, List<Integer> seen) {
        for (int i = 0; i <= 40; i++) {
            int came = x.copy(s, i, s, 0, 1);
            seen.add(came);
            if (came != 1) break;
            seen.add(x.load(s));
            seen.add(x.of(0, TRUTH));
        }
        // as many bits as there are stay of this
        seen.add(x.write(s, 0, 0x10144));
        seen.add(x.load(s));
        seen.add(x.of(0, TRUTH));
    }

    // ---- objects to begin with

    static int marks(int... marks) {
        int set = 0;
        for (int m : marks) set |= 1 << m;
        return set;
    }

    static void feed(ScribeTables x, String text) {
        if (text.length() > 120) tell("the test's own text is too long: " + text);
        for (int i = 0; i < text.length(); i += 4) {
            int n = Math.min(4, text.length() - i);
            int bytes = 0;
            for (int k = 0; k < n; k++) bytes = bytes << 8 | text.charAt(i + k) & 255;
            x.feed(bytes, n);
        }
    }

    static int text(ScribeTables x, String text) {
        feed(x, text);
        return x.text();
    }

    static ScribeTables with(String... texts) {
        ScribeTables x = new ScribeTables();
        for (String t : texts) {
            row++;
            if (text(x, t) < 1) tell("the test's own text is faulty: " + t);
        }
        leaveTraces(x);
        return x;
    }

    /** What was so for a while, and what a TEXT with a FAULT told, must not be seen in what comes. */
    private static void leaveTraces(ScribeTables x) {
        int[] cuts = new int[x.count(0)];
        for (int w = 0; w < cuts.length; w++) cuts[w] = x.law(w, CUTS, 4095);
        text(x, "writer;person by 0;x");
        for (int w = 0; w < cuts.length; w++) x.law(w, CUTS, cuts[w]);
    }

    static ScribeTables inYear(ScribeTables x, int year) {
        int now = x.now(0);
        while (now < year) {
            int n = Math.min(30, year - now);
            x.years(n);
            now += n;
        }
        return x;
    }

    /** Nothing in it is as at first, and nothing as in the image that is kept. */
    static ScribeTables town() {
        ScribeTables x = with("writer cuts 1 adds 2 when 3 price 5;soft adds 9 when 4;person by 0 truth 3 8;person by 1 truth 4 pence 77;tie 0 1");
        x.hold(0, 1);
        x.seed(5);
        x.years(2);
        x.image();
        text(x, "terse cuts 0;person by 2 truth 0;person by 0;tie 1 2");
        x.law(1, CUTS, marks(5));
        x.change(3, LETTERED, 1);
        x.change(3, BELIEFS, marks(7));
        x.years(1);
        x.hold(0, 0);
        x.hold(9, 2);
        x.seed(-99);
        x.sheet(0, 8, 5);
        for (int i = 0; i < 5; i++) x.write(0, i, 10 + 50 * i);
        x.sheet(1, 16, 3);
        for (int i = 0; i < 3; i++) x.write(1, i, 300 + i);
        x.sheet(2, 32, 2);
        x.write(2, 1, 4000);
        leaveTraces(x);
        feed(x, "tie 3 0;form");
        return x;
    }

    /** As many WRITERS and PEOPLE as can be. */
    static ScribeTables fullTown() {
        ScribeTables x = town();
        x.wipe();
        for (int w = 3; w < 6; w++) x.writer(w);
        for (int p = 4; p < 8; p++) x.person(p - 2);
        feed(x, "tie 3 0");
        return x;
    }

    static ScribeTables townIn(int year) {
        return inYear(town(), year);
    }

    /** Eight PEOPLE of one plain WRITER, who takes nothing; each is a TIE with each. */
    static ScribeTables eight() {
        ScribeTables x = with("writer price 0");
        for (int p = 0; p < 8; p++) x.person(0);
        for (int one = 0; one < 8; one++) for (int other = one + 1; other < 8; other++) x.tie(one, other, true);
        return x;
    }

    /** Two who pay the same plain WRITER 4 pence a letter, the first of whom knows MARK 1. */
    static ScribeTables couple() {
        return with("writer;person by 0 truth 1;person by 0;tie 0 1");
    }
}
