/** The edges of promises 1 to 9 and of what "Terms" says of WRITERS, PEOPLE and TIES. */
public final class PeopleEdgeTest extends Sentences {
    private static void newObject() {
        sentence("1: All as at first; no WRITERS, PEOPLE; THE TAPE is empty, no image is kept.");
        // what another object has been through must not be seen in a new one
        fullTown();
        ScribeTables x = new ScribeTables();
        for (int i = -1; i < 7; i++) due(x.status(i), 0);
        for (int i = 0; i < 8; i++) due(x.count(i), i == 6 ? 1 : 0);
        for (int i = 0; i < 6; i++) due(x.now(i), 0);
        for (int m = 0; m < 12; m++) due(x.who(m), 0);
        due(x.wipe(), 0);
        due(x.text(), -1);
        due(x.tear(), 0);
        due(x.status(-1), 0);
        refused(NONE, ScribeTables::new, y -> y.undo());
        refused(BEYOND, ScribeTables::new, y -> y.writerOf(0, 0), y -> y.of(0, 0), y -> y.ties(0), y -> y.says(0), y -> y.puts(0, 0));
        refusedFor(new int[] {0, 1, 2, 3, 4, 5, 6, 7, 8, 9}, MISSING, ScribeTables::new, (y, spot) -> y.as(spot, 0));
        refusedFor(new int[] {0, 1, 2, 3}, MISSING, ScribeTables::new, (y, s) -> y.load(s));
    }

    private static void writer() {
        sentence("2: A new WRITER: its number. / WRITERS 0, 1, .. (at most 6)");
        ScribeTables x = new ScribeTables();
        for (int w = 0; w < 6; w++) {
            due(x.writer(6 - w), w);
            due(x.count(0), w + 1);
        }
        for (int w = 0; w < 6; w++) due(x.writerOf(w, 0), 6 - w);
        x = new ScribeTables();
        due(x.writer(0), 0);
        due(x.writerOf(0, 0), 0);
        due(x.status(-1), 0);
        sentence("2: each with CUTS, ADDS, WHEN (sets; none at first), PRICE (4 at first), PURSE (0 at first)");
        x = fullTown();
        each(new int[] {5, 0, 0, 0, 4, 0}, x.writerOf(5, 0), x.writerOf(5, 1), x.writerOf(5, 2), x.writerOf(5, 3), x.writerOf(5, 4), x.writerOf(5, 5));
        sentence("2: BEYOND. (KINDS 0 to 6)");
        refusedFor(outside(0, 6), BEYOND, Sentences::town, (y, kind) -> y.writer(kind));
        refusedFor(outside(0, 6), BEYOND, ScribeTables::new, (y, kind) -> y.writer(kind));
        sentence("2: FULL.");
        refusedFor(new int[] {0, 1, 2, 3, 4, 5, 6}, FULL, Sentences::fullTown, (y, kind) -> y.writer(kind));
        sentence("2: BEYOND. FULL. (in this order)");
        refusedFor(outside(0, 6), BEYOND, Sentences::fullTown, (y, kind) -> y.writer(kind));
        sentence("2: a WRITER fewer behind undo(): there is room again");
        x = fullTown();
        x.undo();
        due(x.writer(3), 2);
    }

    private static void writerOf() {
        sentence("3: what 0 KIND, 1 CUTS, 2 ADDS, 3 WHEN, 4 PRICE, 5 PURSE");
        ScribeTables x = with("clerk cuts 0 11 adds 5 when 7 price 99;person by 0 pence 99;person by 0 pence 99");
        x.send(0, 1, 0);
        each(new int[] {CLERK, marks(0, 11), marks(5), marks(7), 99, 198},
            x.writerOf(0, 0), x.writerOf(0, 1), x.writerOf(0, 2), x.writerOf(0, 3), x.writerOf(0, 4), x.writerOf(0, 5));
        changesNothing(Sentences::town, y -> y.writerOf(0, 0), y -> y.writerOf(2, 5));
        sentence("3: BEYOND.");
        refusedFor(outside(0, 5), BEYOND, Sentences::town, (y, what) -> y.writerOf(0, what));
        refusedFor(outside(0, 2), BEYOND, Sentences::town, (y, w) -> y.writerOf(w, 0));
        refusedFor(outside(0, 5), BEYOND, Sentences::fullTown, (y, w) -> y.writerOf(w, 5));
        refusedFor(new int[] {0, 5}, BEYOND, ScribeTables::new, (y, what) -> y.writerOf(0, what));
    }

    private static void law() {
        sentence("4: KIND (what 0), CUTS (1), ADDS (2), WHEN (3), PRICE (4) of a WRITER becomes v: what it was.");
        int[] first = {PLAIN, 0, 0, 0, 4};
        int[] most = {6, 4095, 4095, 4095, 99};
        for (int what = 0; what < 5; what++) {
            ScribeTables x = new ScribeTables();
            for (int w = 0; w < 6; w++) x.writer(0);
            due(x.law(5, what, most[what]), first[what]);
            due(x.writerOf(5, what), most[what]);
            due(x.law(5, what, 0), most[what]);
            due(x.law(5, what, 1), 0);
            due(x.writerOf(5, what), 1);
            // one law of one WRITER alone
            for (int i = 0; i < 5; i++) {
                due(x.writerOf(4, i), first[i]);
                if (i != what) due(x.writerOf(5, i), first[i]);
            }
            due(x.status(-1), 0);
            int of = what;
            sentence("4: BEYOND. (no such v for what " + what + ")");
            refusedFor(outside(0, most[what]), BEYOND, Sentences::town, (y, v) -> y.law(0, of, v));
            refusedFor(outside(0, 2), BEYOND, Sentences::town, (y, w) -> y.law(w, of, 1));
        }
        sentence("4: BEYOND. (PURSE is no law)");
        refused(BEYOND, Sentences::town, y -> y.law(0, 5, 0), y -> y.law(0, 5, 5));
        refusedFor(outside(0, 4), BEYOND, Sentences::town, (y, what) -> y.law(0, what, 0));
        refused(BEYOND, ScribeTables::new, y -> y.law(0, 0, 0));
        sentence("4: a law holds from then on, not before");
        ScribeTables x = couple();
        x.send(0, 1, 2);
        x.law(0, PRICE, 99);
        due(x.writerOf(0, PURSE), 8);
        x.law(0, 0, DEAF);
        due(x.of(1, BELIEFS), 2);
        due(x.puts(0, 2), 0);
    }

    private static void person() {
        sentence("5: One more of PEOPLE, with a WRITER: its number. / PEOPLE 0, 1, .. (at most 8)");
        ScribeTables x = fullTown();
        x.undo();
        for (int p = 2; p < 8; p++) {
            due(x.person(p % 2), p);
            due(x.of(p, WRITER), p % 2);
            due(x.count(1), p + 1);
        }
        due(x.person(0), FULL);
        x = with("writer;soft;form;poet;clerk;deaf");
        due(x.person(5), 0);
        due(x.of(0, WRITER), 5);
        sentence("5: TRUTH, BELIEFS (none at first), PENCE (100 at first), LETTERED or not (at first)");
        x = fullTown();
        each(new int[] {0, 0, 5, 100, 0, 0}, x.of(7, 0), x.of(7, 1), x.of(7, 2), x.of(7, 3), x.of(7, 4), x.of(7, 5));
        due(x.ties(7), 0);
        sentence("5: BEYOND.");
        refusedFor(outside(0, 2), BEYOND, Sentences::town, (y, w) -> y.person(w));
        refusedFor(new int[] {-1, 0, 1, LEAST, MOST}, BEYOND, ScribeTables::new, (y, w) -> y.person(w));
        sentence("5: FULL.");
        refusedFor(new int[] {0, 5}, FULL, Sentences::fullTown, (y, w) -> y.person(w));
        sentence("5: BEYOND. FULL. (in this order)");
        refusedFor(outside(0, 5), BEYOND, Sentences::fullTown, (y, w) -> y.person(w));
    }

    private static void of() {
        sentence("6: what 0 TRUTH, 1 BELIEFS, 2 WRITER, 3 PENCE, 4 1 if LETTERED, else 0, 5 LIES");
        ScribeTables x = with("writer;writer;person by 1 truth 0 11 pence 99999");
        x.change(0, BELIEFS, marks(0, 1, 10));
        each(new int[] {marks(0, 11), marks(0, 1, 10), 1, 99999, 0, marks(1, 10)},
            x.of(0, 0), x.of(0, 1), x.of(0, 2), x.of(0, 3), x.of(0, 4), x.of(0, 5));
        x.change(0, LETTERED, 1);
        due(x.of(0, LETTERED), 1);
        changesNothing(Sentences::town, y -> y.of(0, 0), y -> y.of(3, 5));
        sentence("6: LIES of one: BELIEFS that are nobody's TRUTH (of all PEOPLE)");
        x = eight();
        x.change(0, BELIEFS, 4095);
        due(x.of(0, LIES), 4095);
        due(x.of(7, LIES), 0);
        x.change(7, TRUTH, marks(11));
        due(x.of(0, LIES), 2047);
        x.change(0, TRUTH, marks(0));
        due(x.of(0, LIES), 2046);
        x.change(3, TRUTH, 4095);
        due(x.of(0, LIES), 0);
        sentence("6: BEYOND.");
        refusedFor(outside(0, 5), BEYOND, Sentences::town, (y, what) -> y.of(0, what));
        refusedFor(outside(0, 3), BEYOND, Sentences::town, (y, p) -> y.of(p, 0));
        refusedFor(outside(0, 7), BEYOND, Sentences::fullTown, (y, p) -> y.of(p, LIES));
        refusedFor(new int[] {0, 5, 6}, BEYOND, ScribeTables::new, (y, what) -> y.of(0, what));
    }

    private static void change() {
        sentence("7: TRUTH (what 0), BELIEFS (1), WRITER (2), PENCE (3), LETTERED (4) of a person becomes v: what it was.");
        int[] first = {0, 0, 0, 100, 0};
        int[] most = {4095, 4095, 5, 99999, 1};
        for (int what = 0; what < 5; what++) {
            ScribeTables x = eight();
            for (int w = 1; w < 6; w++) x.writer(0);
            due(x.change(7, what, most[what]), first[what]);
            due(x.of(7, what), most[what]);
            due(x.change(7, what, 0), most[what]);
            due(x.of(7, what), 0);
            due(x.change(7, what, 1), 0);
            due(x.of(7, what), 1);
            for (int i = 0; i < 5; i++) {
                due(x.of(6, i), first[i]);
                if (i != what) due(x.of(7, i), first[i]);
            }
            due(x.status(-1), 0);
            int of = what;
            sentence("7: BEYOND. (no such v for what " + what + ")");
            int mostInTown = what == WRITER ? 2 : most[what];
            refusedFor(outside(0, mostInTown), BEYOND, Sentences::town, (y, v) -> y.change(0, of, v));
            refusedFor(outside(0, 3), BEYOND, Sentences::town, (y, p) -> y.change(p, of, 1));
        }
        sentence("7: BEYOND. (LIES are no such)");
        refused(BEYOND, Sentences::town, y -> y.change(0, 5, 0), y -> y.change(0, 5, 1));
        refusedFor(outside(0, 4), BEYOND, Sentences::town, (y, what) -> y.change(0, what, 0));
        refused(BEYOND, ScribeTables::new, y -> y.change(0, 0, 0), y -> y.change(0, 3, 5));
        sentence("7: WRITER: one that there is by now");
        ScribeTables x = town();
        due(x.change(0, WRITER, 2), 0);
        due(x.change(0, WRITER, 3), BEYOND);
        x.writer(0);
        due(x.change(0, WRITER, 3), 2);
    }

    private static void tie() {
        sentence("8: Two PEOPLE are a TIE, or not: 1 if they were, else 0. / TIES: sets of two PEOPLE (none at first)");
        ScribeTables x = fullTown();
        due(x.tie(0, 7, true), 0);
        due(x.tie(0, 7, true), 1);
        due(x.tie(7, 0, true), 1);
        due(x.tie(7, 0, false), 1);
        due(x.tie(0, 7, false), 0);
        due(x.tie(6, 7, false), 0);
        due(x.tie(7, 6, true), 0);
        due(x.tie(6, 7, false), 1);
        sentence("8: all that can be: 28");
        x = eight();
        due(x.now(2), 28);
        due(x.tie(6, 7, true), 1);
        due(x.now(2), 28);
        for (int one = 0; one < 8; one++) for (int other = 0; other < one; other++) due(x.tie(one, other, false), 1);
        due(x.now(2), 0);
        due(x.years(1), 0);
        sentence("8: BEYOND: also one and the same.");
        refusedFor(new int[] {0, 1, 2, 3}, BEYOND, Sentences::town, (y, p) -> y.tie(p, p, true));
        refusedFor(new int[] {0, 3}, BEYOND, Sentences::town, (y, p) -> y.tie(p, p, false));
        refusedFor(outside(0, 3), BEYOND, Sentences::town, (y, p) -> y.tie(p, 0, true));
        refusedFor(outside(0, 3), BEYOND, Sentences::town, (y, p) -> y.tie(0, p, true));
        refusedFor(outside(0, 3), BEYOND, Sentences::town, (y, p) -> y.tie(0, p, false));
        refusedFor(outside(0, 7), BEYOND, Sentences::fullTown, (y, p) -> y.tie(p, p, true));
        refused(BEYOND, ScribeTables::new, y -> y.tie(0, 1, true), y -> y.tie(0, 0, false));
    }

    private static void ties() {
        sentence("9: With whom a person is a TIE, as a set.");
        ScribeTables x = eight();
        for (int p = 0; p < 8; p++) due(x.ties(p), 255 - (1 << p));
        x.tie(7, 0, false);
        due(x.ties(0), 126);
        due(x.ties(7), 126);
        due(new ScribeTables().now(2), 0);
        due(fullTown().ties(4), 0);
        changesNothing(Sentences::town, y -> y.ties(0), y -> y.ties(3));
        sentence("9: BEYOND.");
        refusedFor(outside(0, 3), BEYOND, Sentences::town, (y, p) -> y.ties(p));
        refusedFor(outside(0, 7), BEYOND, Sentences::fullTown, (y, p) -> y.ties(p));
        refused(BEYOND, ScribeTables::new, y -> y.ties(0));
    }

    public static void main(String[] args) {
        newObject();
        writer();
        writerOf();
        law();
        person();
        of();
        change();
        tie();
        ties();
        end("promises 1 to 9");
    }
}
