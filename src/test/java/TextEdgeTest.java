/** The edges of promises 37 to 39 and of what "Terms" says of THE TAPE and of TEXTS. */
public final class TextEdgeTest extends Sentences {
    private static final String[] KINDS = {"writer", "soft", "form", "poet", "clerk", "deaf", "terse"};
    private static final String[] SETS = {"cuts", "adds", "when"};

    private static ScribeTables fed(int bytes) {
        ScribeTables x = town();
        x.wipe();
        feed(x, " ".repeat(bytes));
        return x;
    }

    private static void feed() {
        sentence("37: THE TAPE gets the n lowest bytes of a number behind it, the highest of these first (n 1 to 4): how many it has.");
        ScribeTables x = new ScribeTables();
        each(new int[] {1, 3, 6, 10}, x.feed(0, 1), x.feed(0, 2), x.feed(0, 3), x.feed(0, 4));
        due(x.count(5), 10);
        // bytes that aren't taken would be FAULTS
        int[] taken = {'t', 't' << 8 | 'i', 't' << 16 | 'i' << 8 | 'e', 't' << 24 | 'i' << 16 | 'e' << 8 | ';'};
        int[] faults = {0, 0, 3, 4};
        for (int n = 1; n <= 4; n++) {
            x = couple();
            due(x.feed(n < 4 ? -1 << 8 * n | taken[n - 1] : taken[n - 1], n), n);
            due(x.text(), -1 - (n == 4 ? 3 : faults[n - 1]));
        }
        x = couple();
        x.tie(0, 1, false);
        // "tie", " 0 1"
        x.feed(0x80 << 24 | 't' << 16 | 'i' << 8 | 'e', 3);
        due(x.feed(' ' << 24 | '0' << 16 | ' ' << 8 | '1', 4), 7);
        due(x.text(), 1);
        due(x.ties(0), 2);
        sentence("37: THE TAPE (bytes, at most 120)");
        x = fed(116);
        due(x.feed(0x20202020, 4), 120);
        due(x.count(5), 120);
        x = fed(119);
        due(x.feed(0x20, 1), 120);
        due(x.text(), -121);
        x = fed(117);
        due(x.feed(0x202020, 3), 120);
        x = fed(118);
        due(x.feed(0x2020, 2), 120);
        sentence("37: FULL.");
        refusedFor(new int[] {1, 2, 3, 4}, FULL, () -> fed(120), (y, n) -> y.feed(0, n));
        refusedFor(new int[] {2, 3, 4}, FULL, () -> fed(119), (y, n) -> y.feed(-1, n));
        refusedFor(new int[] {3, 4}, FULL, () -> fed(118), (y, n) -> y.feed(LEAST, n));
        refused(FULL, () -> fed(117), y -> y.feed(MOST, 4));
        sentence("37: nothing of a number that doesn't fit is there");
        x = fed(117);
        x.feed(0x3b3b3b3b, 4);
        due(x.count(5), 117);
        due(x.text(), -118);
        sentence("37: BEYOND: n.");
        refusedFor(outside(1, 4), BEYOND, Sentences::town, (y, n) -> y.feed(0, n));
        refusedFor(outside(1, 4), BEYOND, ScribeTables::new, (y, n) -> y.feed(-1, n));
        sentence("37: BEYOND, then FULL (in this order)");
        refusedFor(outside(1, 4), BEYOND, () -> fed(120), (y, n) -> y.feed(0, n));
    }

    private static void wipe() {
        sentence("38: THE TAPE is empty: how many it had.");
        each(new int[] {0, 1, 119, 120}, fed(0).wipe(), fed(1).wipe(), fed(119).wipe(), fed(120).wipe());
        ScribeTables x = fed(120);
        x.wipe();
        due(x.count(5), 0);
        due(x.wipe(), 0);
        due(x.feed(';', 1), 1);
        due(x.text(), -1);
        changesNothing(() -> fed(0), y -> y.wipe());
        changesNothing(() -> fed(0), y -> {
            feed(y, "writer;soft");
            return y.wipe();
        });
    }

    /** Three WRITERS and four PEOPLE, and nothing on THE TAPE. */
    private static ScribeTables townWithoutTape() {
        return fed(0);
    }

    private static ScribeTables fullTownWithoutTape() {
        ScribeTables x = fullTown();
        x.wipe();
        return x;
    }

    /** In each text the FAULT is where the sign ^ stands. */
    private static void faults(Made made, String... texts) {
        for (String t : texts) {
            int place = t.indexOf('^');
            String without = t.substring(0, place) + t.substring(place + 1);
            changesNothing(made, y -> {
                int got = text(y, without);
                if (got != -1 - place) System.out.println("  text: " + without);
                due(got, -1 - place);
                return 0;
            });
        }
    }

    private static void faultsOfItems() {
        sentence("39: FAULT: the place of the first byte of the first TOKEN that can't stand there, or how many bytes there are if it ends too early.");
        faults(TextEdgeTest::townWithoutTape, "^", "   ^", "^;", " ^; writer", "^x", "^writers", "^write", "^writersoft", "^wri ter", "^writerz", "^azwriter", "^zwriter", "^vriter", "^toft", "^dorm", "^boet", "^blerk", "^leaf", "^verse", "^berson by 0", "^die 0 1", "^ties 0 1", "^persons by 0",
            "^5", "^0 writer", "^cuts 3", "^adds", "^when 1", "^price 3", "^by 0", "^truth 3", "^pence", "writer;^", "writer; ^", "writer;  ^;soft", "writer;^5", "writer ;^cuts 3",
            "tie 0 3;^by", "tie 0 3;^", "person by 0;^", "writer ^writer", "writer ^soft", "tie 0 1 ^tie 0 1", "person by 0 ^person by 0", "writer;soft;^x;form");
        sentence("39: FAULT: a byte that begins no TOKEN");
        faults(TextEdgeTest::townWithoutTape, "^Writer", "^WRITER", "writer^R", "writer;^\n", "^\twriter", "writer^\t", "writer ^\n;soft", "writer^\r\n", "writer ^-1", "^\0", "^\u0001",
            "writer^\u00a0", "writer^\u00ff", "^\u0080", "^`", "^{", "^@", "^[", "^/", "^:", "^!", "writer^,soft", "writer cuts 1^,2", "writer cuts 1^:", "writer cuts 1^/", "^writ`er", "^writ{er", "writer^`", "writer^{", "writer ^cut\u00e9s");
        sentence("39: blanks may stand between; TOKENS, each as long as can be");
        faults(TextEdgeTest::townWithoutTape, "person by ^12", "writer cuts 1 ^12", "writer ^cutsadds 3", "writer ^cutsx3", "^writerprice3", "^personby 0", "person by0^x", "person by 0 truth ^123", "person by 0 truth 1 ^23");
    }

    private static void faultsOfWriters() {
        sentence("39: ITEM: writer, soft, form, poet, clerk, deaf or terse, perhaps cuts and MARKS, perhaps adds and MARKS, perhaps when and MARKS, perhaps price and a NUMBER");
        for (String kind : KINDS) {
            faults(TextEdgeTest::townWithoutTape, kind + " ^3", kind + " ^x", kind + " ^by 0", kind + " ^truth 3", kind + " ^pence 3", kind + " ^tie", kind + "^!",
                kind + " adds 3 ^cuts 3", kind + " when 3 ^cuts 3", kind + " when 3 ^adds 3", kind + " price 3 ^cuts 3", kind + " price 3 ^adds 3", kind + " price 3 ^when 3", kind + " price 3 ^price 3");
        }
        faults(TextEdgeTest::townWithoutTape, "soft ^buts 3", "soft ^odds 3", "soft ^then 3", "soft ^trice 3", "soft ^cut 3", "soft ^add 3", "soft ^pricez 3", "person ^my 0", "person ^b 0", "person ^byz 0", "person by 0 ^druth 3", "person by 0 ^fence 3", "person by 0 ^penc 3",
            "person by 0 ^truthz 3");
        sentence("39: MARKS: 1 or more NUMBERS (0 to 11)");
        for (String set : SETS) {
            String begin = "soft " + set;
            faults(TextEdgeTest::townWithoutTape, begin + "^", begin + "  ^", begin + " ^;", begin + "^;soft", begin + " ^x", begin + " ^" + set + " 3", begin + " ^price 3", begin + " ^12", begin + " ^13",
                begin + " ^99999", begin + " ^100000", begin + " ^4294967296", begin + " ^4294967299", begin + " ^18446744073709551616", begin + " 0 11 ^12", begin + " 11 0 ^12 3", begin + " 3 ^" + set + " 3",
                begin + " 3 ^x", begin + " 3^,4", begin + " 0 1 2 3 4 5 6 7 8 9 10 11 ^12", begin + " 3;^");
        }
        sentence("39: price and a NUMBER (0 to 99)");
        faults(TextEdgeTest::townWithoutTape, "clerk price^", "clerk price ^", "clerk price ^;", "clerk price ^x", "clerk price ^price 3", "clerk price ^100", "clerk price ^101", "clerk price ^99999", "clerk price ^100000",
            "clerk price ^4294967296", "clerk price ^4294967300", "clerk price 9 ^9", "clerk price 99 ^0", "clerk price ^-1", "clerk price 3 ^x");
        sentence("39: the WORD of a 7th WRITER: its own");
        for (String kind : KINDS) {
            faults(TextEdgeTest::townWithoutTape, "writer;soft;form; ^" + kind, "poet;soft;form;^" + kind + " cuts 99", "poet;soft;form;^" + kind + " x");
            faults(TextEdgeTest::fullTownWithoutTape, "^" + kind, "tie 0 1; ^" + kind + " price 100");
        }
        faults(TextEdgeTest::townWithoutTape, "writer;soft;form cuts ^12;poet", "writer;soft;form;tie 0 1;^deaf");
        faults(ScribeTables::new, "writer;soft;form;poet;clerk;deaf;^terse");
    }

    private static void faultsOfPeople() {
        sentence("39: person, by, a NUMBER (a WRITER that there is by then), perhaps truth and MARKS, perhaps pence and a NUMBER (0 to 99999)");
        faults(TextEdgeTest::townWithoutTape, "person^", "person ^", "person ^;", "person ^0", "person ^x 0", "person ^truth 3", "person ^person", "person by^", "person by ^", "person by ^;", "person by ^x", "person by ^by 0",
            "person by ^3", "person by ^4", "person by ^99999", "person by ^100000", "person by ^4294967296", "person by ^4294967298", "person by ^3;writer", "writer;person by ^4", "person by 0 ^1", "person by 0 ^by", "person by 0 ^x",
            "person by 0 ^cuts 3", "person by 0 ^price 3", "person by 2 truth^", "person by 2 truth ^", "person by 2 truth ^;", "person by 2 truth ^pence 3", "person by 2 truth ^12", "person by 2 truth 0 11 ^12", "person by 2 truth ^99999",
            "person by 2 truth ^4294967296", "person by 2 truth 3 ^truth 3", "person by 2 truth 3 ^x", "person by 2 pence^", "person by 2 pence ^", "person by 2 pence ^;", "person by 2 pence ^x", "person by 2 pence ^100000", "person by 2 pence ^999990",
            "person by 2 pence ^4294967296", "person by 2 pence ^18446744073709551617", "person by 2 pence 5 ^5", "person by 2 pence 5 ^pence 5", "person by 2 pence 5 ^truth 3", "person by 2 truth 3 pence 5 ^truth 3");
        faults(ScribeTables::new, "person by ^0", "person by ^0;writer", "writer;person by ^1", "writer;person by ^6", "writer;person by 0;^");
        sentence("39: the WORD of a 9th person: its own");
        faults(TextEdgeTest::townWithoutTape, "person by 0;person by 0;person by 0;person by 0;^person by 0", "person by 0;person by 0;person by 0;person by 0;writer;^person", "person by 0;person by 0;person by 0;person by ^3;person by 0");
        faults(TextEdgeTest::fullTownWithoutTape, "^person by 0", "^person", " ^person x", "^person by 9", "tie 0 1;^person by 0");
        faults(ScribeTables::new, "writer;person by 0;person by 0;person by 0;person by 0;person by 0;person by 0;person by 0;person by 0;^person by 0");
    }

    private static void faultsOfTies() {
        sentence("39: tie, two NUMBERS (unlike PEOPLE that there are by then)");
        faults(TextEdgeTest::townWithoutTape, "tie^", "tie ^", "tie ^;", "tie ^x", "tie ^by 0", "tie ^4 0", "tie ^99999 0", "tie ^100000 0", "tie ^4294967296 1", "tie 0^", "tie 0 ^", "tie 0 ^;", "tie 0 ^x", "tie 0 ^0", "tie 3 ^3", "tie 00 ^0",
            "tie 0 ^4", "tie 3 ^99999", "tie 0 ^4294967297", "tie 0 1 ^2", "tie 0 1 ^x", "tie 0 1 ^by", "tie ^4 0;person by 0", "person by 0;tie ^5 0", "person by 0;tie 4 ^4", "tie 0 ^4;person by 0", "tie 0 2;^");
        faults(ScribeTables::new, "tie^", "tie ^0 1", "tie ^0", "writer;tie ^0 1", "writer;person by 0;tie 0 ^1", "writer;person by 0;tie 0 ^0", "writer;person by 0;tie ^1 0", "writer;person by 0;tie 0^", "tie ^0 1;writer;person by 0;person by 0");
        faults(TextEdgeTest::fullTownWithoutTape, "tie ^8 0", "tie 0 ^8", "tie 7 ^7");
    }

    private static void faultsAtTheEnd() {
        sentence("39: With a FAULT: -1 less the FAULT (nothing changes but that THE TAPE is empty; no finding)");
        String whole = "tie 0 3;tie 0 3;tie 0 3;tie 0 3;tie 0 3;tie 0 3;tie 0 3;tie 0 3;tie 0 3;tie 0 3;tie 0 3;tie 0 3;tie 0 3;tie 0 3;tie 0 3";
        faults(TextEdgeTest::townWithoutTape, whole + ";^", whole + "^!", whole.substring(0, 112) + "tie 0 ^0", " ".repeat(119) + "^;", " ".repeat(120) + "^");
        ScribeTables x = townWithoutTape();
        text(x, "writer;soft;form;tie 0 3;person by 4 truth 3;tie 4 3;x");
        each(new int[] {3, 4, 0, 0}, x.count(0), x.count(1), x.count(5), x.status(-1));
        due(x.ties(3), 0);
        // new ones have nothing of those that the faulty text told of
        due(x.writer(SOFT), 3);
        due(x.person(3), 4);
        each(new int[] {0, 0, 3, 100, 0}, x.of(4, 0), x.of(4, 1), x.of(4, 2), x.of(4, 3), x.of(4, 4));
        due(x.ties(4), 0);
        sentence("39: THE TAPE is empty then: what is fed next begins at 0");
        x = townWithoutTape();
        text(x, "writer;x");
        due(text(x, "tie 0 3"), 1);
        due(text(x, "x"), -1);
        due(x.text(), -1);
    }

    private static void wholeTexts() {
        sentence("39: THE TAPE is a TEXT, and empty then; all that it tells is so, item by item: how many ITEMS.");
        for (int kind = 0; kind < 7; kind++) {
            ScribeTables x = new ScribeTables();
            due(text(x, KINDS[kind] + ";" + KINDS[kind] + " cuts 0 11 adds 10 1 when 2 9 9 price 99;" + KINDS[kind] + " cuts4when0price00"), 3);
            each(new int[] {3, 0, 0, 0}, x.count(0), x.count(1), x.count(5), x.status(-1));
            int[][] want = {{kind, 0, 0, 0, 4, 0}, {kind, marks(0, 11), marks(1, 10), marks(2, 9), 99, 0}, {kind, marks(4), 0, marks(0), 0, 0}};
            for (int w = 0; w < 3; w++) for (int i = 0; i < 6; i++) due(x.writerOf(w, i), want[w][i]);
        }
        String[] items = {"soft cuts 11", "soft adds 0", "soft when 0 1 2 3 4 5 6 7 8 9 10 11", "soft price 0", "soft cuts 1 when 2", "soft adds 3 price 5"};
        int[][] rows = {{marks(11), 0, 0, 4}, {0, 1, 0, 4}, {0, 0, 4095, 4}, {0, 0, 0, 0}, {2, 0, 4, 4}, {0, 8, 0, 5}};
        ScribeTables x = new ScribeTables();
        for (int w = 0; w < 6; w++) {
            due(text(x, items[w]), 1);
            for (int i = 0; i < 4; i++) due(x.writerOf(w, 1 + i), rows[w][i]);
        }
        sentence("39: one of PEOPLE more, with what it says");
        x = with("writer;soft;form;poet;clerk;deaf");
        String[] people = {"person by 5", "person by 0 truth 0 11", "person by 1 pence 99999", "person by 2 truth 5 5 pence 0", "person by3truth4pence5", " person  by  4  pence  007 "};
        int[][] are = {{0, 0, 5, 100, 0}, {marks(0, 11), 0, 0, 100, 0}, {0, 0, 1, 99999, 0}, {marks(5), 0, 2, 0, 0}, {marks(4), 0, 3, 5, 0}, {0, 0, 4, 7, 0}};
        for (int p = 0; p < 6; p++) {
            due(text(x, people[p]), 1);
            for (int i = 0; i < 5; i++) due(x.of(p, i), are[p][i]);
        }
        due(text(x, "tie 5 0"), 1);
        due(text(x, "person by 0;person by 0;tie 7 6"), 3);
        each(new int[] {32, 1, 128, 64, 2}, x.ties(0), x.ties(5), x.ties(6), x.ties(7), x.now(2));
        sentence("39: those that there are by then: by an ITEM of the same TEXT, too");
        x = new ScribeTables();
        due(text(x, "writer;person by 0;clerk;person by 1;tie 1 0;soft;person by 2;tie 2 1;tie 1 2;tie 0 1"), 10);
        each(new int[] {3, 3, 2, 1, 2}, x.count(0), x.count(1), x.now(2), x.of(1, WRITER), x.of(2, WRITER));
    }

    private static void longTexts() {
        sentence("39: at most 120 bytes");
        ScribeTables x = townWithoutTape();
        String fifteen = "tie 0 3;tie 0 3;tie 0 3;tie 0 3;tie 0 3;tie 0 3;tie 0 3;tie 0 3;tie 0 3;tie 0 3;tie 0 3;tie 0 3;tie 0 3;tie 0 3;tie 0 3";
        due(text(x, fifteen), 15);
        due(text(x, " " + fifteen), 15);
        due(text(x, fifteen + " "), 15);
        due(x.ties(0), 2 + 8);
        due(text(x, "tie" + " ".repeat(114) + "2 3"), 1);
        due(x.ties(3), 1 + 4);
        due(text(x, "person by 1 truth" + " 11".repeat(30) + " pence 00099"), 1);
        each(new int[] {marks(11), 99}, x.of(4, TRUTH), x.of(4, PENCE));
        due(text(x, "person by 1 pence " + "0".repeat(97) + "99999"), 1);
        due(x.of(5, PENCE), 99999);
        sentence("39: what was before goes on as it was");
        x = townWithoutTape();
        ScribeTables twin = townWithoutTape();
        due(text(x, "tie 0 1"), 1);
        due(twin.tie(0, 1, true), 1);
        for (int p = 0; p < 4; p++) for (int i = 0; i < 6; i++) due(x.of(p, i), twin.of(p, i));
        for (int i = 0; i < 8; i++) due(x.count(i), twin.count(i));
        for (int i = 0; i < 6; i++) due(x.now(i), twin.now(i));
        for (int i = 0; i < 10; i++) due(x.as(i, PLAIN), twin.as(i, PLAIN));
        changesNothing(TextEdgeTest::townWithoutTape, y -> text(y, "tie 0 1"), y -> text(y, "tie 2 1 ; tie 1 0"));
        due(x.undo(), 2);
    }

    public static void main(String[] args) {
        feed();
        wipe();
        faultsOfItems();
        faultsOfWriters();
        faultsOfPeople();
        faultsOfTies();
        faultsAtTheEnd();
        wholeTexts();
        longTexts();
        end("promises 37 to 39");
    }
}
