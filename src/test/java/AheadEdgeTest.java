/** The edges of promises 17 to 22 and of what "Terms" says of AHEAD. */
public final class AheadEdgeTest extends Sentences {
    /** What holds of each call by which n YEARS go AHEAD; the call is one that answers no finding in town(). */
    private static void yearsAhead(int promise, CallOf call) {
        sentence(promise + ": n YEARS (0 to 60) AHEAD / AHEAD: nothing changes");
        changesNothing(Sentences::town, y -> call.on(y, 0), y -> call.on(y, 1), y -> call.on(y, 60));
        sentence(promise + ": BEYOND. (n YEARS)");
        refusedFor(outside(0, 60), BEYOND, Sentences::town, call);
        sentence(promise + ": STATE: YEAR would be above 999.");
        changesNothing(() -> townIn(939), y -> call.on(y, 60));
        refused(STATE, () -> townIn(940), y -> call.on(y, 60));
        changesNothing(() -> townIn(940), y -> call.on(y, 59));
        changesNothing(() -> townIn(998), y -> call.on(y, 1));
        refused(STATE, () -> townIn(998), y -> call.on(y, 2));
        changesNothing(() -> townIn(999), y -> call.on(y, 0));
        refusedFor(new int[] {1, 2, 60}, STATE, () -> townIn(999), call);
        sentence(promise + ": BEYOND, then STATE (in this order)");
        refusedFor(outside(0, 60), BEYOND, () -> townIn(999), call);
    }

    private static void aheadLetters() {
        sentence("17: AHEAD n YEARS: what 0 LETTERS in them");
        ScribeTables x = couple();
        each(new int[] {0, 2, 24, 25, 25}, x.ahead(0, 0), x.ahead(1, 0), x.ahead(12, 0), x.ahead(13, 0), x.ahead(60, 0));
        // not those that were SENT before
        x.send(0, 1, 0);
        each(new int[] {0, 2, 24}, x.ahead(0, 0), x.ahead(1, 0), x.ahead(60, 0));
        due(eight().ahead(60, 0), 3360);
        due(eight().ahead(59, 0), 3304);
        due(new ScribeTables().ahead(60, 0), 0);
        due(with("writer price 0;person by 0;person by 0").ahead(60, 0), 0);
        due(inYear(eight(), 939).ahead(60, 0), 3360);
    }

    private static void aheadPoor() {
        sentence("17: 1 those without PENCE for a LETTER of their WRITER (not LETTERED), as a set");
        ScribeTables x = with("writer price 7;writer price 30;person by 0 pence 7;person by 1 pence 29;person by 0 pence 6",
            "person by 1 pence 0;person by 0 pence 0;person by 1 pence 30;person by 0;person by 1 pence 28");
        due(x.ahead(0, 1), marks(1, 2, 3, 4, 7));
        x.change(7, LETTERED, 1);
        x.change(4, LETTERED, 1);
        due(x.ahead(0, 1), marks(1, 2, 3));
        x.law(0, PRICE, 0);
        due(x.ahead(60, 1), marks(1, 3));
        x.law(1, PRICE, 0);
        due(x.ahead(60, 1), 0);
        x.law(1, PRICE, 99);
        due(x.ahead(0, 1), marks(1, 3, 5));
        // 4 PENCE are there behind 12 YEARS, none behind 13
        x = couple();
        each(new int[] {0, 0, 3, 3}, x.ahead(0, 1), x.ahead(12, 1), x.ahead(13, 1), x.ahead(60, 1));
        due(new ScribeTables().ahead(0, 1), 0);
        x = fullTown();
        for (int p = 0; p < 8; p++) x.change(p, PENCE, 0);
        for (int w = 0; w < 6; w++) x.law(w, PRICE, 1);
        due(x.ahead(0, 1), 255 - marks(3));
    }

    private static void aheadBelieved() {
        sentence("17: 2 MARKS believed by all (none without PEOPLE), as a set");
        all(0, new ScribeTables().ahead(0, 2), new ScribeTables().ahead(60, 2));
        ScribeTables x = with("writer;person by 0");
        due(x.ahead(0, 2), 0);
        x.change(0, BELIEFS, 4095);
        due(x.ahead(60, 2), 4095);
        x = eight();
        for (int p = 0; p < 8; p++) x.change(p, BELIEFS, 4095);
        due(x.ahead(0, 2), 4095);
        x.change(0, BELIEFS, 4095 - marks(0));
        due(x.ahead(0, 2), 4095 - marks(0));
        x.change(7, BELIEFS, 4095 - marks(11));
        due(x.ahead(0, 2), 4095 - marks(0, 11));
        // one who knows it hears of it last
        x = eight();
        x.change(7, TRUTH, marks(11));
        each(new int[] {0, 0, marks(11), marks(11)}, x.ahead(0, 2), x.ahead(1, 2), x.ahead(2, 2), x.ahead(60, 2));
    }

    private static void aheadOfPeople() {
        sentence("17: 3 + person its BELIEFS");
        ScribeTables x = eight();
        for (int p = 0; p < 8; p++) x.change(p, BELIEFS, marks(p, 11));
        for (int p = 0; p < 8; p++) due(x.ahead(0, 3 + p), marks(p, 11));
        sentence("17: AHEAD: n YEARS go on with all as it is");
        int[] ahead = {0, 1, 2, 3, 7, 12, 13, 29, 30};
        for (int n : ahead) {
            x = n % 2 == 0 ? fullTown() : inYear(fullTown(), 600);
            x.change(0, PENCE, 45);
            due(x.tie(0, 7, true), 0);
            ScribeTables twin = n % 2 == 0 ? fullTown() : inYear(fullTown(), 600);
            twin.change(0, PENCE, 45);
            twin.tie(0, 7, true);
            due(x.ahead(n, 0), n == 0 ? 0 : twin.years(n));
            for (int p = 0; p < 8; p++) due(x.ahead(n, 3 + p), twin.of(p, BELIEFS));
            due(x.ahead(n, 1), twin.ahead(0, 1));
            due(x.ahead(n, 2), twin.ahead(0, 2));
        }
        changesNothing(Sentences::town, y -> y.ahead(60, 0), y -> y.ahead(60, 1), y -> y.ahead(60, 2), y -> y.ahead(60, 3));
        sentence("17: BEYOND: no such person, too.");
        refusedFor(outside(0, 6), BEYOND, Sentences::town, (y, what) -> y.ahead(0, what));
        refusedFor(outside(0, 10), BEYOND, Sentences::fullTown, (y, what) -> y.ahead(60, what));
        refusedFor(outside(0, 2), BEYOND, ScribeTables::new, (y, what) -> y.ahead(0, what));
        sentence("17: BEYOND, then STATE (in this order)");
        refusedFor(outside(0, 6), BEYOND, () -> townIn(999), (y, what) -> y.ahead(1, what));
    }

    private static void ahead() {
        yearsAhead(17, (y, n) -> y.ahead(n, 0));
        yearsAhead(17, (y, n) -> y.ahead(n, 6));
        aheadLetters();
        aheadPoor();
        aheadBelieved();
        aheadOfPeople();
    }

    /** The slowest that a search found: a MARK is believed 57 YEARS later. */
    private static ScribeTables slow() {
        int[][] laws = {{TERSE, 226, 2946, 32}, {FORM, 1288, 2520, 261}, {FORM, 225, 417, 70}, {SOFT, 276, 2630, 24}, {PLAIN, 1409, 3584, 501}, {FORM, 3640, 2720, 32}};
        int[][] people = {{0, 256, 3}, {66, 0, 0}, {128, 1, 2}, {2056, 3080, 1}, {0, 0, 3}, {160, 33, 2}, {0, 1024, 4}, {3600, 512, 5}};
        int[][] ties = {{0, 4}, {1, 4}, {1, 5}, {2, 5}, {2, 6}, {3, 6}, {3, 7}, {4, 7}};
        ScribeTables x = new ScribeTables();
        for (int w = 0; w < 6; w++) {
            x.writer(PLAIN);
            for (int what = 0; what < 4; what++) x.law(w, what, laws[w][what]);
            x.law(w, PRICE, 0);
        }
        for (int p = 0; p < 8; p++) {
            x.person(people[p][2]);
            x.change(p, TRUTH, people[p][0]);
            x.change(p, BELIEFS, people[p][1]);
        }
        x.change(4, LETTERED, 1);
        for (int[] t : ties) x.tie(t[0], t[1], true);
        return x;
    }

    private static void whenSlow() {
        sentence("18: Behind how many YEARS AHEAD: many");
        ScribeTables x = slow();
        due(x.when(5, 7), 57);
        for (int n = 0; n <= 60; n++) due(x.ahead(n, 3 + 5) >> 7 & 1, n < 57 ? 0 : 1);
        for (int y = 1; y <= 57; y++) {
            due(x.years(1), 16);
            due(x.when(5, 7), 57 - y);
        }
        x = slow();
        inYear(x, 30);
        due(x.when(5, 7), 27);
        due(x.years(26), 416);
        due(x.of(5, BELIEFS) >> 7 & 1, 0);
        due(x.years(1), 16);
        due(x.of(5, BELIEFS) >> 7 & 1, 1);
    }

    private static void when() {
        sentence("18: Behind how many YEARS (0 to 60) AHEAD a person believes a MARK.");
        // against the numbers a MARK goes one TIE a YEAR; 7, who knows it, hears of it from 6
        ScribeTables x = with("writer price 0");
        for (int p = 0; p < 8; p++) x.person(0);
        for (int p = 0; p < 7; p++) x.tie(p, p + 1, true);
        x.change(7, TRUTH, marks(0, 11));
        for (int p = 0; p < 7; p++) all(7 - p, x.when(p, 0), x.when(p, 11));
        due(x.when(7, 11), 2);
        x.change(0, TRUTH, marks(5));
        for (int p = 1; p < 8; p++) due(x.when(p, 5), 1);
        due(x.when(0, 5), 1);
        // what is believed already
        x.change(0, BELIEFS, marks(5, 6));
        all(0, x.when(0, 5), x.when(0, 6));
        due(x.when(1, 6), 1);
        x.years(3);
        due(x.when(0, 11), 4);
        due(x.when(4, 11), 0);
        due(x.when(3, 11), 1);
        inYear(x, 939);
        due(x.when(0, 11), 0);
        changesNothing(Sentences::town, y -> y.when(0, 3), y -> y.when(3, 7));
        changesNothing(() -> townIn(939), y -> y.when(3, 7));
        sentence("18: NONE.");
        refused(NONE, Sentences::town, y -> y.when(0, 11));
        refused(NONE, () -> townIn(939), y -> y.when(0, 11));
        refused(NONE, () -> with("writer;person by 0;person by 0 truth 3"), y -> y.when(0, 3), y -> y.when(1, 3));
        refused(NONE, () -> with("writer;person by 0 pence 3;person by 0 truth 3;tie 0 1"), y -> y.when(0, 3), y -> y.when(1, 3));
        due(with("writer;person by 0 pence 4;person by 0 truth 3;tie 0 1").when(0, 3), NONE);
        due(with("writer;person by 0 pence 8;person by 0 truth 3;tie 0 1").when(0, 3), 1);
        sentence("18: STATE: YEAR is above 939.");
        refused(STATE, () -> townIn(940), y -> y.when(3, 7));
        refused(STATE, () -> townIn(999), y -> y.when(3, 7));
        sentence("18: STATE, then NONE (in this order)");
        refused(STATE, () -> townIn(940), y -> y.when(0, 11));
        sentence("18: BEYOND.");
        refusedFor(outside(0, 3), BEYOND, Sentences::town, (y, p) -> y.when(p, 7));
        refusedFor(outside(0, 7), BEYOND, Sentences::fullTown, (y, p) -> y.when(p, 7));
        refusedFor(outside(0, 11), BEYOND, Sentences::town, (y, m) -> y.when(3, m));
        refused(BEYOND, ScribeTables::new, y -> y.when(0, 0));
        sentence("18: BEYOND, then STATE (in this order)");
        refused(BEYOND, () -> townIn(940), y -> y.when(4, 7), y -> y.when(-1, 7), y -> y.when(3, 12), y -> y.when(3, -1));
    }

    private static void without() {
        yearsAhead(19, (y, n) -> y.without(0, 3, n));
        sentence("19: PEOPLE who would believe a MARK behind n YEARS AHEAD, if a WRITER added nothing (ADDS none), as a set.");
        ScribeTables x = with("writer cuts 2 adds 5 when 1;person by 0 truth 1 2;person by 0;tie 0 1");
        due(x.ahead(1, 4), marks(1, 5));
        // its CUTS stay
        each(new int[] {3, 0, 0}, x.without(0, 1, 1), x.without(0, 2, 1), x.without(0, 5, 1));
        due(x.writerOf(0, ADDS), marks(5));
        // what is believed already stays, though it came of ADDS
        x.years(1);
        all(3, x.without(0, 5, 0), x.without(0, 5, 60));
        sentence("19: all of ADDS, those of a POET too; but MARK 0 of a CLERK is none of them");
        x = with("poet adds 5 6 11;clerk adds 7 when 1;person by 0 truth 1;person by 1;tie 0 1");
        due(x.ahead(1, 4), marks(0, 1, 5, 6, 7));
        due(x.ahead(1, 3), marks(0, 1, 5, 6, 11));
        all(0, x.without(0, 5, 1), x.without(0, 6, 1), x.without(0, 11, 1));
        due(x.without(0, 7, 1), 3);
        all(3, x.without(1, 0, 1), x.without(1, 1, 1));
        due(x.without(1, 7, 1), 0);
        sentence("19: of that WRITER alone");
        x = with("writer;writer;writer;writer;writer;poet adds 4 price 0;person by 5;person by 5;tie 0 1");
        for (int w = 0; w < 5; w++) due(x.without(w, 4, 1), 3);
        due(x.without(5, 4, 1), 0);
        x.law(0, 0, POET);
        x.law(0, ADDS, marks(4));
        due(x.without(0, 4, 1), 3);
        due(x.without(5, 4, 1), 0);
        x.change(0, WRITER, 0);
        all(3, x.without(0, 4, 1), x.without(5, 4, 1));
        sentence("19: as a set, all PEOPLE of it");
        x = eight();
        x.change(0, TRUTH, marks(11));
        each(new int[] {0, 254, 255}, x.without(0, 11, 0), x.without(0, 11, 1) & 254, x.without(0, 11, 2));
        sentence("19: BEYOND.");
        refusedFor(outside(0, 2), BEYOND, Sentences::town, (y, w) -> y.without(w, 3, 1));
        refusedFor(outside(0, 5), BEYOND, Sentences::fullTown, (y, w) -> y.without(w, 3, 1));
        refusedFor(outside(0, 11), BEYOND, Sentences::town, (y, m) -> y.without(0, m, 1));
        refused(BEYOND, ScribeTables::new, y -> y.without(0, 0, 0));
        sentence("19: BEYOND, then STATE (in this order)");
        refused(BEYOND, () -> townIn(999), y -> y.without(3, 3, 1), y -> y.without(-1, 3, 1), y -> y.without(0, 12, 1), y -> y.without(0, -1, 1));
    }

    private static void added() {
        yearsAhead(20, (y, n) -> y.added(2, n));
        sentence("20: WRITERS without the ADDS of whom fewer would believe a MARK behind n YEARS AHEAD, as a set.");
        due(new ScribeTables().added(0, 0), 0);
        due(new ScribeTables().added(11, 60), 0);
        ScribeTables x = with("writer adds 5 when 1;writer;writer;writer;writer;poet adds 11;person by 0 truth 1;person by 5;tie 0 1");
        each(new int[] {1, 32, 0, 0}, x.added(5, 1), x.added(11, 1), x.added(1, 1), x.added(0, 1));
        all(0, x.added(5, 0), x.added(11, 0));
        // each of three is wanted for it
        x = with("poet adds 5;writer adds 6 when 5;writer;writer;writer;writer adds 7 when 6;person by 1;person by 5;person by 0",
            "tie 0 1;tie 1 2;tie 0 2");
        each(new int[] {7, 7}, x.without(2, 7, 2), x.without(4, 7, 2));
        each(new int[] {1, 35, 3}, x.added(5, 2), x.added(7, 2), x.added(6, 2));
        // one of two fewer is fewer
        x = with("writer adds 5 when 1;person by 0 truth 1;person by 0;person by 0 truth 5;person by 0;tie 0 1;tie 2 3");
        due(x.ahead(1, 0), 4);
        due(x.without(0, 5, 1), 12);
        due(x.added(5, 1), 1);
        sentence("20: two who add the same: without one of them as many believe it");
        x = with("poet adds 4;poet adds 4;person by 0;person by 1;tie 0 1");
        due(x.added(4, 1), 0);
        x.law(1, ADDS, 0);
        due(x.added(4, 1), 1);
        sentence("20: more who would believe it aren't fewer");
        // ADDS push MARK 9 out of what the terse one leaves
        x = with("terse adds 0 when 5;writer;person by 0 truth 5 9;person by 1;tie 0 1");
        due(x.ahead(1, 4), marks(0, 5));
        due(x.without(0, 9, 1), 3);
        due(x.added(9, 1), 0);
        due(x.added(0, 1), 1);
        sentence("20: as many others aren't fewer");
        x = with("terse adds 0 3 when 5;person by 0 truth 5 9;person by 0;person by 0 truth 1 3 5;person by 0;tie 0 1;tie 2 3");
        x.change(1, LETTERED, 1);
        x.change(3, LETTERED, 1);
        each(new int[] {9, 9, 3, 3}, x.ahead(1, 3), x.ahead(1, 4), x.ahead(1, 5), x.ahead(1, 6));
        due(x.without(0, 3, 1), 12);
        due(x.added(3, 1), 0);
        sentence("20: BEYOND.");
        refusedFor(outside(0, 11), BEYOND, Sentences::town, (y, m) -> y.added(m, 1));
        refused(BEYOND, ScribeTables::new, y -> y.added(12, 0), y -> y.added(0, 61));
        sentence("20: BEYOND, then STATE (in this order)");
        refused(BEYOND, () -> townIn(999), y -> y.added(12, 1), y -> y.added(-1, 1));
    }

    private static void best() {
        yearsAhead(21, (y, n) -> y.best(0, 1, n));
        sentence("21: The WRITER that a person should take so that most of its TRUTH is believed by another one behind n YEARS AHEAD.");
        String six = "writer cuts 1 2;writer cuts 1;writer cuts 2;writer cuts 0 1 2;writer cuts 1 2 3;writer";
        ScribeTables x = with(six, "person by 0 truth 0 1 2;person by 5;tie 0 1");
        x.change(1, LETTERED, 1);
        // 5 alone lets all three pass
        due(x.best(0, 1, 1), 5);
        x.law(5, CUTS, marks(0));
        // 1, 2 and 5 let two pass: the least
        due(x.best(0, 1, 1), 1);
        due(x.best(0, 1, 60), 1);
        // nothing comes in no YEAR: the least
        due(x.best(0, 1, 0), 0);
        due(x.of(0, WRITER), 0);
        x.change(0, WRITER, 3);
        due(x.best(0, 1, 0), 0);
        sentence("21: of its TRUTH, not of what it believes, nor of what the other one does or knows");
        x = with("writer cuts 1;writer cuts 2 3 4;person by 1 truth 1;person by 1 truth 2;tie 0 1");
        x.change(0, BELIEFS, marks(2, 3, 4));
        x.change(1, LETTERED, 1);
        due(x.best(0, 1, 1), 1);
        x.change(0, TRUTH, 0);
        due(x.best(0, 1, 1), 0);
        // what is believed already counts for each WRITER
        x.change(0, TRUTH, marks(1, 3));
        x.change(1, BELIEFS, marks(1));
        due(x.best(0, 1, 1), 0);
        x.change(1, BELIEFS, marks(3));
        due(x.best(0, 1, 1), 1);
        due(x.best(1, 0, 1), 0);
        sentence("21: by another one, and what it comes to by way of others");
        x = with("writer cuts 6;writer price 0;person by 0 truth 6;person by 1;person by 1;tie 0 1;tie 1 2");
        due(x.best(0, 2, 1), 1);
        due(x.best(0, 1, 1), 1);
        x.tie(1, 2, false);
        due(x.best(0, 2, 60), 0);
        sentence("21: a WRITER who is too dear writes nothing");
        x = with("writer price 99;writer price 50;writer cuts 8 price 1;person by 0 truth 7 8 pence 49;person by 0;tie 0 1");
        x.change(1, LETTERED, 1);
        due(x.best(0, 1, 1), 2);
        x.change(0, PENCE, 50);
        due(x.best(0, 1, 1), 1);
        x.change(0, PENCE, 99);
        due(x.best(0, 1, 1), 0);
        sentence("21: one who is LETTERED needs none: the least");
        x.change(0, LETTERED, 1);
        due(x.best(0, 1, 1), 0);
        sentence("21: BEYOND: also one and the same.");
        refusedFor(new int[] {0, 1, 2, 3}, BEYOND, Sentences::town, (y, p) -> y.best(p, p, 0));
        refusedFor(outside(0, 3), BEYOND, Sentences::town, (y, p) -> y.best(p, 0, 1));
        refusedFor(outside(0, 3), BEYOND, Sentences::town, (y, p) -> y.best(0, p, 1));
        refusedFor(outside(0, 7), BEYOND, Sentences::fullTown, (y, p) -> y.best(p, 0, 1));
        refusedFor(outside(0, 7), BEYOND, Sentences::fullTown, (y, p) -> y.best(7, p, 1));
        refused(BEYOND, ScribeTables::new, y -> y.best(0, 1, 0));
        sentence("21: BEYOND, then STATE (in this order)");
        refused(BEYOND, () -> townIn(999), y -> y.best(0, 0, 1), y -> y.best(4, 0, 1), y -> y.best(0, -1, 1));
    }

    private static void bridge() {
        yearsAhead(22, (y, n) -> y.bridge(3, n));
        sentence("22: The TIE more by which most believe a MARK behind n YEARS AHEAD: 10 times the lesser, and the other one; of several the first so.");
        ScribeTables x = with("writer price 0;person by 0;person by 0;person by 0;person by 0;person by 0;person by 0 truth 3;tie 1 2;tie 2 3");
        // in one YEAR one hears of it, in two 0 or 4, or 1, 2 and 3
        due(x.bridge(3, 0), 1);
        due(x.bridge(3, 1), 5);
        due(x.bridge(3, 2), 15);
        due(x.bridge(3, 60), 15);
        due(x.bridge(4, 60), 1);
        due(x.now(2), 2);
        x.tie(1, 5, true);
        // 0 or 4 will hear of it: by 0 the first
        due(x.bridge(3, 60), 1);
        x.tie(0, 1, true);
        due(x.bridge(3, 60), 4);
        x.tie(0, 4, true);
        // all will believe it with each of those that are left
        due(x.bridge(3, 60), 2);
        x.tie(0, 2, true);
        due(x.bridge(3, 60), 3);
        sentence("22: one TIE is left, the last");
        x = eight();
        x.tie(6, 7, false);
        due(x.bridge(0, 0), 67);
        due(x.bridge(11, 60), 67);
        due(x.now(2), 27);
        x.tie(0, 7, false);
        x.tie(0, 1, false);
        due(x.bridge(0, 0), 1);
        x.tie(0, 1, true);
        due(x.bridge(0, 0), 7);
        due(with("writer;person by 0;person by 0").bridge(0, 0), 1);
        sentence("22: NONE: all are, or there aren't two of them.");
        refused(NONE, Sentences::eight, y -> y.bridge(0, 0), y -> y.bridge(11, 60));
        refused(NONE, () -> couple(), y -> y.bridge(0, 0));
        refused(NONE, ScribeTables::new, y -> y.bridge(0, 0), y -> y.bridge(11, 60));
        refused(NONE, () -> with("writer;person by 0"), y -> y.bridge(0, 0));
        sentence("22: BEYOND.");
        refusedFor(outside(0, 11), BEYOND, Sentences::town, (y, m) -> y.bridge(m, 1));
        sentence("22: BEYOND, STATE, NONE (in this order)");
        refused(BEYOND, () -> townIn(999), y -> y.bridge(12, 1), y -> y.bridge(-1, 1));
        refused(BEYOND, ScribeTables::new, y -> y.bridge(12, 0), y -> y.bridge(-1, 0), y -> y.bridge(0, 61), y -> y.bridge(0, -1));
        refused(STATE, () -> inYear(new ScribeTables(), 999), y -> y.bridge(0, 1));
        refused(STATE, () -> inYear(eight(), 940), y -> y.bridge(0, 60));
        refused(NONE, () -> inYear(eight(), 940), y -> y.bridge(0, 59));
        refused(BEYOND, () -> inYear(eight(), 999), y -> y.bridge(12, 60));
    }

    public static void main(String[] args) {
        ahead();
        when();
        whenSlow();
        without();
        added();
        best();
        bridge();
        end("promises 17 to 22");
    }
}
