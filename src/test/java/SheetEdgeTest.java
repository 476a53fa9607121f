/** The edges of promises 40 to 46 and of what "Terms" says of SPOTS and SHEETS. */
public final class SheetEdgeTest extends Sentences {
    private static void hold() {
        sentence("40: A SPOT holds a WRITER, or nothing (-1): 1. / SPOTS 0 to 9 hold a WRITER or nothing (at first)");
        ScribeTables x = new ScribeTables();
        for (int spot = 0; spot < 10; spot++) all(1, x.hold(spot, -1));
        due(x.count(7), 0);
        for (int w = 0; w < 6; w++) x.writer(w);
        for (int spot = 0; spot < 10; spot++) {
            due(x.hold(spot, spot % 6), 1);
            due(x.count(7), spot + 1);
        }
        for (int spot = 0; spot < 10; spot++) due(x.as(spot, PLAIN), spot % 6);
        // a WRITER may be held by several, and one is held instead of another
        due(x.hold(9, 0), 1);
        due(x.hold(9, 5), 1);
        due(x.as(9, PLAIN), 5);
        due(x.as(0, PLAIN), 0);
        due(x.hold(0, -1), 1);
        due(x.hold(0, -1), 1);
        due(x.count(7), 9);
        due(x.as(0, PLAIN), MISSING);
        due(x.as(6, PLAIN), 0);
        changesNothing(Sentences::town, y -> y.hold(0, 0), y -> y.hold(9, 2), y -> y.hold(5, -1));
        sentence("40: BEYOND.");
        refusedFor(outside(0, 9), BEYOND, Sentences::town, (y, spot) -> y.hold(spot, 0));
        refusedFor(outside(0, 9), BEYOND, Sentences::town, (y, spot) -> y.hold(spot, -1));
        refusedFor(outside(-1, 2), BEYOND, Sentences::town, (y, w) -> y.hold(0, w));
        refusedFor(outside(-1, 5), BEYOND, Sentences::fullTown, (y, w) -> y.hold(9, w));
        refusedFor(new int[] {0, 1, -2, LEAST, MOST}, BEYOND, ScribeTables::new, (y, w) -> y.hold(0, w));
    }

    private static void as() {
        sentence("41: What a SPOT holds as one of a kind (0 to 6): the number of the WRITER. / KINDS: 0 WRITER; 1 SOFT, 2 FORM, 5 DEAF under WRITER; 3 POET under SOFT; 4 CLERK, 6 TERSE under FORM");
        boolean[][] is = {
            {true, false, false, false, false, false, false},
            {true, true, false, false, false, false, false},
            {true, false, true, false, false, false, false},
            {true, true, false, true, false, false, false},
            {true, false, true, false, true, false, false},
            {true, false, false, false, false, true, false},
            {true, false, true, false, false, false, true}};
        for (int k = 0; k < 7; k++) {
            int kind = k;
            Made made = () -> {
                ScribeTables y = town();
                y.law(2, 0, kind);
                return y;
            };
            for (int w = 0; w < 7; w++) {
                int wanted = w;
                if (is[kind][wanted]) changesNothing(made, y -> y.as(9, wanted));
                if (is[kind][wanted]) due(made.make().as(9, wanted), 2);
                if (!is[kind][wanted]) refused(KIND, made, y -> y.as(9, wanted));
            }
        }
        sentence("41: as it is by now: its law may change");
        ScribeTables x = with("writer;poet");
        x.hold(3, 1);
        due(x.as(3, SOFT), 1);
        x.law(1, 0, TERSE);
        each(new int[] {KIND, 1, 1, KIND}, x.as(3, SOFT), x.as(3, FORM), x.as(3, TERSE), x.as(3, CLERK));
        sentence("41: MISSING: it holds nothing.");
        for (int kind = 0; kind < 7; kind++) {
            int wanted = kind;
            refused(MISSING, Sentences::town, y -> y.as(1, wanted), y -> y.as(8, wanted));
            refused(MISSING, ScribeTables::new, y -> y.as(0, wanted), y -> y.as(9, wanted));
        }
        sentence("41: BEYOND.");
        refusedFor(outside(0, 9), BEYOND, Sentences::town, (y, spot) -> y.as(spot, 0));
        refusedFor(outside(0, 6), BEYOND, Sentences::town, (y, kind) -> y.as(0, kind));
        sentence("41: BEYOND, then MISSING (in this order)");
        refusedFor(outside(0, 6), BEYOND, Sentences::town, (y, kind) -> y.as(1, kind));
        refusedFor(outside(0, 6), BEYOND, ScribeTables::new, (y, kind) -> y.as(0, kind));
        refusedFor(outside(0, 9), BEYOND, ScribeTables::new, (y, spot) -> y.as(spot, 6));
    }

    /** The numbers that can be read of a sheet as TRUTHS; -1 where one isn't a SAYING. */
    private static int number(ScribeTables x, int s, int i) {
        int was = x.of(0, TRUTH);
        x.copy(s, i, s, 0, 1);
        int got = x.load(s) > 0 ? x.of(0, TRUTH) : -1;
        x.change(0, TRUTH, was);
        return got;
    }

    private static int lengthOf(ScribeTables x, int s) {
        int n = 0;
        while (n < 50 && x.copy(s, 0, s, 0, n + 1) == n + 1) n++;
        return n;
    }

    private static void sheet() {
        sentence("42: A sheet has n numbers, all 0, of 8, 16 or 32 bits; bits 0: it is MISSING: n (0 if it is MISSING).");
        for (int bits : new int[] {8, 16, 32}) {
            ScribeTables x = with("writer;person by 0");
            each(new int[] {40, 0, 1, 39}, x.sheet(0, bits, 40), x.sheet(1, bits, 0), x.sheet(2, bits, 1), x.sheet(3, bits, 39));
            each(new int[] {40, 0, 1, 39}, lengthOf(x, 0), lengthOf(x, 1), lengthOf(x, 2), lengthOf(x, 3));
            for (int i = 0; i < 40; i++) due(number(x, 0, i), 0);
            due(x.write(0, 39, 5), 1);
            due(x.write(0, 0, 6), 1);
            due(x.write(3, 0, 7), 1);
            // laid anew, all are 0, also those that were away for a while
            due(x.sheet(0, bits, 1), 1);
            due(lengthOf(x, 0), 1);
            due(number(x, 0, 0), 0);
            due(x.sheet(0, bits, 40), 40);
            due(number(x, 0, 39), 0);
            due(number(x, 3, 0), 7);
        }
        ScribeTables x = town();
        each(new int[] {0, 0, 0}, x.sheet(0, 0, 0), x.sheet(1, 0, 40), x.sheet(3, 0, 7));
        all(MISSING, x.load(0), x.load(1), x.load(3), x.write(0, 0, 0));
        due(x.load(2), 2);
        // it can be there again
        due(x.sheet(0, 8, 2), 2);
        due(x.load(0), 2);
        sentence("42: BEYOND: no such sheet, other bits.");
        refusedFor(outside(0, 3), BEYOND, Sentences::town, (y, s) -> y.sheet(s, 8, 1));
        refusedFor(outside(0, 3), BEYOND, Sentences::town, (y, s) -> y.sheet(s, 0, 0));
        refusedFor(new int[] {-1, 1, 2, 4, 7, 9, 15, 17, 24, 31, 33, 64, 40, -8, -16, -32, 264, 65552, LEAST, MOST}, BEYOND, Sentences::town, (y, bits) -> y.sheet(0, bits, 1));
        sentence("42: SIZE: n is below 0 (also with bits 0).");
        for (int bits : new int[] {0, 8, 16, 32}) {
            refusedFor(new int[] {-1, -2, -40, -256, LEAST}, SIZE, Sentences::town, (y, n) -> y.sheet(0, bits, n));
            refused(SIZE, Sentences::town, y -> y.sheet(3, bits, -1));
        }
        sentence("42: BEYOND: n is above 40 (also with bits 0).");
        for (int bits : new int[] {0, 8, 16, 32}) {
            refusedFor(new int[] {41, 42, 64, 256, 296, MOST}, BEYOND, Sentences::town, (y, n) -> y.sheet(0, bits, n));
            refused(BEYOND, Sentences::town, y -> y.sheet(3, bits, 41));
        }
        sentence("42: BEYOND (no such sheet, other bits), then SIZE (in this order)");
        refusedFor(outside(0, 3), BEYOND, Sentences::town, (y, s) -> y.sheet(s, 8, -1));
        refusedFor(new int[] {-8, 1, 24, 64}, BEYOND, Sentences::town, (y, bits) -> y.sheet(0, bits, -1));
    }

    private static void write() {
        sentence("43: Number i of a sheet becomes v (its lowest bits): 1. / told with their sign: of 8 bits 255 is -1");
        int[] eight = {0, 1, 127, 128, 255, 256, 383, 384, -1, -128, -129, -256, MOST, LEAST, 4095, 0x12345};
        int[] is8 = {0, 1, 127, -1, -1, 0, 127, -1, -1, -1, 127, 0, -1, 0, -1, 0x45};
        int[] sixteen = {0, 4095, 4096, 32767, 32768, 65535, 65536, 69631, 69632, -1, -65536, -61441, MOST, LEAST, 255, 0x12345};
        int[] is16 = {0, 4095, -1, -1, -1, -1, 0, 4095, -1, -1, 0, 4095, -1, 0, 255, -1};
        int[] thirtyTwo = {0, 4095, 4096, 65536, 69631, MOST, LEAST, -1, 255, 128, 32768, 256, 16777216};
        int[] is32 = {0, 4095, -1, -1, -1, -1, -1, -1, 255, 128, -1, 256, -1};
        ScribeTables x = with("writer;person by 0");
        x.sheet(0, 8, 1);
        x.sheet(1, 16, 1);
        x.sheet(2, 32, 1);
        for (int i = 0; i < 16; i++) {
            due(x.write(0, 0, eight[i]), 1);
            due(number(x, 0, 0), is8[i]);
            due(x.write(1, 0, sixteen[i]), 1);
            due(number(x, 1, 0), is16[i]);
        }
        for (int i = 0; i < 13; i++) {
            due(x.write(2, 0, thirtyTwo[i]), 1);
            due(number(x, 2, 0), is32[i]);
        }
        sentence("43: that number alone, of that sheet alone");
        for (int s = 0; s < 4; s++) {
            x = with("writer;person by 0");
            for (int t = 0; t < 4; t++) x.sheet(t, 16, 40);
            x.write(s, 39, 7);
            x.write(s, 0, 5);
            due(number(x, s, 0), 5);
            due(number(x, s, 38), 0);
            due(number(x, s, 39), 7);
            for (int t = 0; t < 4; t++) if (t != s) all(0, number(x, t, 39), number(x, t, 0));
        }
        changesNothing(Sentences::town, y -> y.write(0, 0, 10), y -> y.write(2, 1, 4000));
        sentence("43: BEYOND: no such sheet.");
        refusedFor(outside(0, 3), BEYOND, Sentences::town, (y, s) -> y.write(s, 0, 0));
        sentence("43: MISSING.");
        refusedFor(new int[] {0, 1, 39}, MISSING, Sentences::town, (y, i) -> y.write(3, i, 0));
        refusedFor(new int[] {0, 1, 2, 3}, MISSING, ScribeTables::new, (y, s) -> y.write(s, 0, 0));
        sentence("43: BEYOND: no such number.");
        refusedFor(outside(0, 4), BEYOND, Sentences::town, (y, i) -> y.write(0, i, 1));
        refusedFor(outside(0, 2), BEYOND, Sentences::town, (y, i) -> y.write(1, i, 1));
        refusedFor(outside(0, 1), BEYOND, Sentences::town, (y, i) -> y.write(2, i, 1));
        Made full = () -> {
            ScribeTables y = new ScribeTables();
            y.sheet(3, 8, 40);
            y.sheet(2, 8, 0);
            return y;
        };
        refusedFor(outside(0, 39), BEYOND, full, (y, i) -> y.write(3, i, 1));
        refusedFor(new int[] {-1, 0, 1}, BEYOND, full, (y, i) -> y.write(2, i, 1));
        sentence("43: BEYOND (no such sheet), MISSING, BEYOND (no such number) (in this order)");
        refusedFor(new int[] {-1, 40, LEAST, MOST}, MISSING, Sentences::town, (y, i) -> y.write(3, i, 0));
        refused(BEYOND, ScribeTables::new, y -> y.write(4, -1, 0), y -> y.write(-1, 0, 0));
    }

    /** Sheets 0 and 1 have six and four numbers of 16 bits: 1 to 6 and 11 to 14; 2 has six of 8 bits; 3 is MISSING. */
    private static ScribeTables papers() {
        ScribeTables x = with("writer;person by 0");
        x.sheet(0, 16, 6);
        x.sheet(1, 16, 4);
        x.sheet(2, 8, 6);
        for (int i = 0; i < 6; i++) x.write(0, i, i + 1);
        for (int i = 0; i < 4; i++) x.write(1, i, i + 11);
        return x;
    }

    private static void numbers(ScribeTables x, int s, int... want) {
        due(lengthOf(x, s), want.length);
        // from the last on: what is looked at comes to the first place
        int first = number(x, s, 0);
        for (int i = want.length - 1; i > 0; i--) due(number(x, s, i), want[i]);
        if (want.length > 0) due(first, want[0]);
    }

    private static void copy() {
        sentence("44: n numbers of a sheet from one on come to another one from one on (as they all were): n.");
        ScribeTables x = papers();
        due(x.copy(0, 0, 1, 0, 4), 4);
        numbers(x, 1, 1, 2, 3, 4);
        numbers(x, 0, 1, 2, 3, 4, 5, 6);
        x = papers();
        due(x.copy(0, 5, 1, 3, 1), 1);
        numbers(x, 1, 11, 12, 13, 6);
        x = papers();
        due(x.copy(1, 0, 0, 2, 4), 4);
        numbers(x, 0, 1, 2, 11, 12, 13, 14);
        x = papers();
        due(x.copy(0, 3, 1, 1, 3), 3);
        numbers(x, 1, 11, 4, 5, 6);
        sentence("44: (as they all were): on one and the same sheet, upwards and downwards");
        x = papers();
        due(x.copy(0, 0, 0, 1, 5), 5);
        numbers(x, 0, 1, 1, 2, 3, 4, 5);
        x = papers();
        due(x.copy(0, 1, 0, 0, 5), 5);
        numbers(x, 0, 2, 3, 4, 5, 6, 6);
        x = papers();
        due(x.copy(0, 0, 0, 2, 4), 4);
        numbers(x, 0, 1, 2, 1, 2, 3, 4);
        x = papers();
        due(x.copy(0, 0, 0, 0, 6), 6);
        numbers(x, 0, 1, 2, 3, 4, 5, 6);
        sentence("44: none come");
        changesNothing(SheetEdgeTest::papers, y -> y.copy(0, 0, 1, 0, 0), y -> y.copy(0, 6, 1, 4, 0), y -> y.copy(0, 6, 0, 6, 0), y -> y.copy(2, 6, 2, 0, 0));
        sentence("44: forty come, of each sheet to each");
        for (int s = 0; s < 4; s++) {
            int t = (s + 1) % 4;
            x = with("writer;person by 0");
            x.sheet(s, 32, 40);
            x.sheet(t, 32, 40);
            for (int i = 0; i < 40; i++) x.write(s, i, 100 + i);
            due(x.copy(s, 0, t, 0, 40), 40);
            all(139, number(x, t, 39), number(x, s, 39));
            all(101, number(x, t, 1), number(x, s, 1));
        }
        sentence("44: with their sign");
        x = papers();
        x.sheet(3, 8, 1);
        x.write(2, 5, 200);
        due(x.copy(2, 5, 3, 0, 1), 1);
        due(number(x, 3, 0), -1);
        x.write(2, 5, 100);
        x.copy(2, 5, 3, 0, 1);
        due(number(x, 3, 0), 100);
        copyRefused();
    }

    private static void copyRefused() {
        sentence("44: BEYOND: no such sheet (either).");
        refusedFor(outside(0, 3), BEYOND, SheetEdgeTest::papers, (y, s) -> y.copy(s, 0, 0, 0, 1));
        refusedFor(outside(0, 3), BEYOND, SheetEdgeTest::papers, (y, t) -> y.copy(0, 0, t, 0, 1));
        sentence("44: MISSING: one is.");
        refused(MISSING, SheetEdgeTest::papers, y -> y.copy(3, 0, 0, 0, 1), y -> y.copy(0, 0, 3, 0, 1), y -> y.copy(3, 0, 3, 0, 0));
        sentence("44: KIND: they are not of as many bits.");
        refused(KIND, SheetEdgeTest::papers, y -> y.copy(0, 0, 2, 0, 1), y -> y.copy(2, 0, 1, 0, 1), y -> y.copy(0, 0, 2, 0, 0));
        int[] widths = {8, 16, 32};
        for (int bits : widths) {
            for (int other : widths) {
                Made made = () -> {
                    ScribeTables y = new ScribeTables();
                    y.sheet(0, bits, 2);
                    y.sheet(1, other, 2);
                    return y;
                };
                if (bits == other) changesNothing(made, y -> y.copy(0, 0, 1, 0, 2));
                else refused(KIND, made, y -> y.copy(0, 0, 1, 0, 2));
            }
        }
        sentence("44: BEYOND: one has not so many, or from, to or n is below 0.");
        refusedFor(outside(0, 5), BEYOND, SheetEdgeTest::papers, (y, from) -> y.copy(0, from, 1, 0, 1));
        refusedFor(outside(0, 3), BEYOND, SheetEdgeTest::papers, (y, to) -> y.copy(0, 0, 1, to, 1));
        refusedFor(outside(0, 4), BEYOND, SheetEdgeTest::papers, (y, n) -> y.copy(0, 0, 1, 0, n));
        refusedFor(outside(0, 4), BEYOND, SheetEdgeTest::papers, (y, n) -> y.copy(1, 0, 0, 0, n));
        refusedFor(outside(0, 6), BEYOND, SheetEdgeTest::papers, (y, from) -> y.copy(0, from, 1, 0, 0));
        refusedFor(outside(0, 4), BEYOND, SheetEdgeTest::papers, (y, to) -> y.copy(0, 0, 1, to, 0));
        refusedFor(outside(0, 2), BEYOND, SheetEdgeTest::papers, (y, from) -> y.copy(0, from, 1, 0, 4));
        refusedFor(outside(0, 1), BEYOND, SheetEdgeTest::papers, (y, to) -> y.copy(0, 0, 1, to, 3));
        // sums that wrap around, and one below 0 that another one would make good
        refused(BEYOND, SheetEdgeTest::papers, y -> y.copy(0, MOST, 1, 0, 1), y -> y.copy(0, 1, 1, 0, MOST), y -> y.copy(0, MOST, 1, 0, MOST), y -> y.copy(0, 2, 1, MOST, 2),
            y -> y.copy(0, LEAST, 1, 0, LEAST), y -> y.copy(0, -1, 1, 0, 2), y -> y.copy(0, 0, 1, -1, 2), y -> y.copy(0, 3, 1, 3, -1), y -> y.copy(0, -1, 0, -1, 1), y -> y.copy(0, 6, 1, 0, -1));
        sentence("44: BEYOND (no such sheet), MISSING, KIND, BEYOND (in this order)");
        refused(BEYOND, SheetEdgeTest::papers, y -> y.copy(4, 0, 3, 0, 1), y -> y.copy(3, 0, 4, 0, 1), y -> y.copy(3, 0, -1, 0, 1), y -> y.copy(-1, 0, 3, 0, 1));
        refused(MISSING, SheetEdgeTest::papers, y -> y.copy(3, 0, 0, 0, -1), y -> y.copy(2, 0, 3, 0, 41), y -> y.copy(0, -1, 3, 0, 1), y -> y.copy(3, 0, 2, -1, 1));
        refused(KIND, SheetEdgeTest::papers, y -> y.copy(0, 0, 2, 0, -1), y -> y.copy(0, -1, 2, 0, 1), y -> y.copy(2, 0, 0, -1, 1), y -> y.copy(0, 0, 2, 0, 7), y -> y.copy(0, MOST, 2, 0, 1));
    }

    private static ScribeTables eightWith(int bits, int... numbers) {
        ScribeTables x = eight();
        x.sheet(0, bits, numbers.length);
        for (int i = 0; i < numbers.length; i++) x.write(0, i, numbers[i]);
        return x;
    }

    private static void load() {
        sentence("45: Numbers of a sheet, from its begin on, become TRUTHS of PEOPLE 0, 1, ..: how many came.");
        ScribeTables x = eightWith(16, 0, 4095, 1, 2048, 5, 6, 7, 8);
        for (int p = 0; p < 8; p++) {
            x.change(p, TRUTH, 77);
            x.change(p, BELIEFS, 78);
        }
        due(x.load(0), 8);
        each(new int[] {0, 4095, 1, 2048, 5, 6, 7, 8}, x.of(0, 0), x.of(1, 0), x.of(2, 0), x.of(3, 0), x.of(4, 0), x.of(5, 0), x.of(6, 0), x.of(7, 0));
        for (int p = 0; p < 8; p++) each(new int[] {78, 0, 100, 0}, x.of(p, 1), x.of(p, 2), x.of(p, 3), x.of(p, 4));
        sentence("45: It ends at the first that isn't a SAYING, or for which there is nobody.");
        int[] none = {-1, 4096, LEAST, MOST, 65536, 8191};
        for (int v : none) {
            for (int i = 0; i < 4; i++) {
                x = eightWith(32, 9, 9, 9, 9);
                x.write(0, i, v);
                due(x.load(0), i);
                for (int p = 0; p < 8; p++) due(x.of(p, TRUTH), p < i ? 9 : 0);
            }
        }
        due(eightWith(8, 127, 128, 3).load(0), 1);
        due(eightWith(8, 5, 6, 255).load(0), 2);
        due(eightWith(16, 1, 2, 3, 4, 5, 6, 7, 8, 9, 10).load(0), 8);
        due(eightWith(16, 1, 2, 3, 4, 5, 6, 7).load(0), 7);
        due(eightWith(16, 1, 2, 3, 4, 5, 6, 7, -1, 9).load(0), 7);
        due(eightWith(16, 1, 2, 3, 4, 5, 6, 7, 8, -1).load(0), 8);
        x = with("writer;person by 0;person by 0");
        x.sheet(3, 16, 40);
        due(x.load(3), 2);
        sentence("45: none comes: no numbers, nobody");
        changesNothing(SheetEdgeTest::nobody, y -> y.load(0), y -> y.load(1));
        changesNothing(() -> eightWith(8), y -> y.load(0));
        changesNothing(() -> eightWith(8, -1, 3), y -> y.load(0));
        sentence("45: BEYOND: no such sheet.");
        refusedFor(outside(0, 3), BEYOND, Sentences::town, (y, s) -> y.load(s));
        refusedFor(outside(0, 3), BEYOND, ScribeTables::new, (y, s) -> y.load(s));
        sentence("45: MISSING.");
        refused(MISSING, Sentences::town, y -> y.load(3));
        refusedFor(new int[] {0, 1, 2, 3}, MISSING, ScribeTables::new, (y, s) -> y.load(s));
    }

    private static ScribeTables nobody() {
        ScribeTables x = new ScribeTables();
        x.sheet(0, 8, 3);
        x.sheet(1, 8, 0);
        return x;
    }

    private static void judge() {
        sentence("46: numbers of a sheet are letters that a WRITER can have written (PUTS any SAYING so): 0 if all are; else 1 and the place of the first that isn't.");
        ScribeTables x = with("writer;writer cuts 0;clerk;terse;soft;poet adds 5");
        x.sheet(0, 16, 3);
        each(new int[] {0, 0, 1, 0, 0, 1}, x.judge(0, 0), x.judge(0, 1), x.judge(0, 2), x.judge(0, 3), x.judge(0, 4), x.judge(0, 5));
        x.write(0, 0, marks(5));
        x.write(0, 1, marks(0, 5));
        x.write(0, 2, marks(0, 5, 8));
        each(new int[] {0, 2, 1, 3, 3, 3}, x.judge(0, 0), x.judge(0, 1), x.judge(0, 2), x.judge(0, 3), x.judge(0, 4), x.judge(0, 5));
        x.write(0, 0, 4095);
        each(new int[] {0, 1, 1, 1, 1, 1}, x.judge(0, 0), x.judge(0, 1), x.judge(0, 2), x.judge(0, 3), x.judge(0, 4), x.judge(0, 5));
        sentence("46: each place of forty, the last too");
        x = with("writer cuts 11");
        x.sheet(3, 32, 40);
        for (int i = 39; i >= 0; i--) {
            due(x.judge(3, 0), i == 39 ? 0 : i + 2);
            x.write(3, i, i % 3 == 0 ? 2048 : i % 3 == 1 ? 4095 : 2049);
            due(x.judge(3, 0), i + 1);
        }
        sentence("46: what is no SAYING nobody has written");
        x = with("writer");
        x.sheet(0, 32, 2);
        for (int v : new int[] {-1, 4096, LEAST, MOST, 65536, 8192, -4096}) {
            x.write(0, 1, v);
            due(x.judge(0, 0), 2);
        }
        x.write(0, 1, 4095);
        due(x.judge(0, 0), 0);
        x.sheet(1, 8, 1);
        x.write(1, 0, 255);
        due(x.judge(1, 0), 1);
        sentence("46: nothing is written there: 0");
        x.sheet(1, 8, 0);
        due(x.judge(1, 0), 0);
        x.law(0, 0, CLERK);
        due(x.judge(1, 0), 0);
        changesNothing(Sentences::town, y -> y.judge(0, 0), y -> y.judge(2, 2));
        judgeRefused();
    }

    private static void judgeRefused() {
        sentence("46: BEYOND: no such sheet.");
        refusedFor(outside(0, 3), BEYOND, Sentences::town, (y, s) -> y.judge(s, 0));
        sentence("46: MISSING.");
        refused(MISSING, Sentences::town, y -> y.judge(3, 0), y -> y.judge(3, 2));
        sentence("46: BEYOND: no such WRITER.");
        refusedFor(outside(0, 2), BEYOND, Sentences::town, (y, w) -> y.judge(0, w));
        refusedFor(outside(0, 5), BEYOND, Sentences::fullTown, (y, w) -> y.judge(0, w));
        refused(BEYOND, SheetEdgeTest::nobody, y -> y.judge(0, 0), y -> y.judge(1, 0));
        sentence("46: BEYOND (no such sheet), MISSING, BEYOND (no such WRITER) (in this order)");
        refusedFor(outside(0, 2), MISSING, Sentences::town, (y, w) -> y.judge(3, w));
        refused(MISSING, ScribeTables::new, y -> y.judge(0, 0));
        refused(BEYOND, ScribeTables::new, y -> y.judge(4, 0), y -> y.judge(-1, 0));
    }

    public static void main(String[] args) {
        hold();
        as();
        sheet();
        write();
        copy();
        load();
        judge();
        end("promises 40 to 46");
    }
}
