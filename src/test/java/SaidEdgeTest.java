/** The edges of promises 23 to 30: what can have been said by what stands written. */
public final class SaidEdgeTest extends Sentences {
    /** Six plain WRITERS who let pass what is told for each. */
    private static ScribeTables six(int... pass) {
        ScribeTables x = new ScribeTables();
        for (int w = 0; w < 6; w++) {
            x.writer(PLAIN);
            x.law(w, CUTS, 4095 - pass[w]);
        }
        return x;
    }

    private static void many() {
        sentence("23: How many SAYINGS (of 4096) a WRITER PUTS as a set.");
        ScribeTables x = with("writer;writer cuts 0 1 2 3 4 5 6 7 8 9 10 11;clerk;deaf;terse;form");
        all(1, x.many(0, 0), x.many(0, 1), x.many(0, 4094), x.many(0, 4095));
        due(x.many(1, 0), 4096);
        all(0, x.many(1, 1), x.many(1, 4095));
        // MARK 0 alone: of nothing and of itself
        each(new int[] {0, 2, 0}, x.many(2, 0), x.many(2, 1), x.many(2, 2));
        each(new int[] {64, 64, 0, 0}, x.many(3, 0), x.many(3, marks(0, 2, 4, 6, 8, 10)), x.many(3, marks(11)), x.many(3, 4095));
        // 0 and 1, and any of the other ten
        each(new int[] {1, 1, 1024, 1, 0}, x.many(4, 0), x.many(4, 1), x.many(4, 3), x.many(4, marks(10, 11)), x.many(4, 7));
        each(new int[] {1, 256, 1, 1, 0}, x.many(5, 0), x.many(5, 15), x.many(5, marks(8, 9, 10, 11)), x.many(5, marks(9, 10, 11)), x.many(5, 31));
        changesNothing(Sentences::town, y -> y.many(0, 0), y -> y.many(2, 4095));
        sentence("23: each SAYING is PUT as one set");
        int whole = 0;
        x = with("soft cuts 3 adds 9 when 2 8");
        for (int written = 0; written < 256; written++) whole += x.many(0, written);
        due(whole, 4096);
        sentence("23: BEYOND.");
        refusedFor(outside(0, 2), BEYOND, Sentences::town, (y, w) -> y.many(w, 0));
        refusedFor(outside(0, 5), BEYOND, Sentences::fullTown, (y, w) -> y.many(w, 4095));
        refusedFor(outside(0, 4095), BEYOND, Sentences::town, (y, v) -> y.many(0, v));
        refused(BEYOND, ScribeTables::new, y -> y.many(0, 0));
    }

    private static void said() {
        sentence("24: The least SAYING that it does (what 0), the MARKS that all have that it does (1), those that any has (2).");
        ScribeTables x = with("writer;writer cuts 0 1 2 3 4 5 6 7 8 9 10 11;soft;clerk;poet adds 5 11;terse");
        for (int what = 0; what < 3; what++) {
            all(0, x.said(0, 0, what));
            all(4095, x.said(0, 4095, what));
            all(marks(0, 11), x.said(0, marks(0, 11), what));
        }
        each(new int[] {0, 0, 4095}, x.said(1, 0, 0), x.said(1, 0, 1), x.said(1, 0, 2));
        // 5 was 5, 9 or both
        each(new int[] {marks(5), 0, marks(5, 9)}, x.said(2, marks(5), 0), x.said(2, marks(5), 1), x.said(2, marks(5), 2));
        each(new int[] {marks(0, 5), marks(0), marks(0, 5, 9)}, x.said(2, marks(0, 5), 0), x.said(2, marks(0, 5), 1), x.said(2, marks(0, 5), 2));
        each(new int[] {255, 15, 4095}, x.said(2, 255, 0), x.said(2, 255, 1), x.said(2, 255, 2));
        each(new int[] {0, 0, 1}, x.said(3, 1, 0), x.said(3, 1, 1), x.said(3, 1, 2));
        each(new int[] {0, 0, marks(5, 9)}, x.said(4, marks(5, 11), 0), x.said(4, marks(5, 11), 1), x.said(4, marks(5, 11), 2));
        each(new int[] {marks(3, 8), marks(3, 8), 4095 - 7 - marks(4, 5, 6, 7)}, x.said(5, marks(3, 8), 0), x.said(5, marks(3, 8), 1), x.said(5, marks(3, 8), 2));
        x = with("deaf;form;deaf cuts 0 2 4 6 8 10;terse cuts 11");
        each(new int[] {0, 0, marks(1, 3, 5, 7, 9, 11)}, x.said(0, 0, 0), x.said(0, 0, 1), x.said(0, 0, 2));
        each(new int[] {15, 15, 4095}, x.said(1, 15, 0), x.said(1, 15, 1), x.said(1, 15, 2));
        each(new int[] {0, 0, 4095}, x.said(2, 0, 0), x.said(2, 0, 1), x.said(2, 0, 2));
        each(new int[] {0, 0, marks(11)}, x.said(3, 0, 0), x.said(3, 0, 1), x.said(3, 0, 2));
        changesNothing(Sentences::town, y -> y.said(0, 0, 0), y -> y.said(0, 0, 1), y -> y.said(0, 0, 2));
        sentence("24: NONE.");
        for (int what = 0; what < 3; what++) {
            int of = what;
            // the first WRITER of town() cuts MARK 1, the second leaves no harsh ones
            refused(NONE, Sentences::town, y -> y.said(0, marks(1), of), y -> y.said(1, 4095, of), y -> y.said(2, 1, of));
        }
        sentence("24: BEYOND.");
        refusedFor(outside(0, 2), BEYOND, Sentences::town, (y, w) -> y.said(w, 0, 0));
        refusedFor(outside(0, 4095), BEYOND, Sentences::town, (y, v) -> y.said(0, v, 0));
        refusedFor(outside(0, 2), BEYOND, Sentences::town, (y, what) -> y.said(0, 0, what));
        refused(BEYOND, ScribeTables::new, y -> y.said(0, 0, 0));
        sentence("24: BEYOND, then NONE (in this order)");
        refusedFor(outside(0, 2), BEYOND, Sentences::town, (y, what) -> y.said(0, marks(1), what));
    }

    private static void hands() {
        sentence("25: WRITERS whose hand it can be (who PUT any SAYING so), as a set.");
        ScribeTables x = six(4095, 4094, 2047, 0, 15, 4095 - 32);
        each(new int[] {63, 1, marks(0, 2, 4, 5), marks(0, 1, 5)}, x.hands(0), x.hands(4095), x.hands(1), x.hands(marks(11)));
        each(new int[] {marks(0, 1, 2), marks(0, 4, 2, 5), marks(0, 1), 1}, x.hands(marks(5)), x.hands(15), x.hands(4094), x.hands(marks(0, 5, 11)));
        x = with("clerk;soft");
        due(x.hands(marks(8)), 0);
        due(x.hands(marks(0, 8)), 1);
        due(x.hands(0), 2);
        // it has no hand without WRITERS
        all(0, new ScribeTables().hands(0), new ScribeTables().hands(4095));
        changesNothing(Sentences::town, y -> y.hands(0), y -> y.hands(4095));
        sentence("25: BEYOND.");
        refusedFor(outside(0, 4095), BEYOND, Sentences::town, (y, v) -> y.hands(v));
        refusedFor(outside(0, 4095), BEYOND, ScribeTables::new, (y, v) -> y.hands(v));
    }

    private static void likeliest() {
        sentence("26: The WRITER who PUTS most SAYINGS as a set.");
        ScribeTables x = six(4095, 2047, 1023, 511, 255, 127);
        each(new int[] {5, 5, 4, 3, 2, 1, 0}, x.likeliest(0), x.likeliest(64), x.likeliest(128), x.likeliest(256), x.likeliest(512), x.likeliest(1024), x.likeliest(2048));
        due(x.likeliest(4095), 0);
        sentence("26: of several the least number");
        x = six(4095, 1023, 4095 - 3, 4095 - 96, 4095, 2047);
        each(new int[] {1, 1, 2, 0}, x.likeliest(0), x.likeliest(4), x.likeliest(1024 + 32), x.likeliest(4095));
        due(six(4095, 4095, 4095, 4095, 4095, 4095).likeliest(7), 0);
        // 4096 SAYINGS are more than 2048
        due(with("writer cuts 1 2 3 4 5 6 7 8 9 10 11;writer cuts 0 1 2 3 4 5 6 7 8 9 10 11").likeliest(0), 1);
        changesNothing(Sentences::town, y -> y.likeliest(0), y -> y.likeliest(marks(0, 5)));
        sentence("26: NONE: nobody does.");
        refused(NONE, ScribeTables::new, y -> y.likeliest(0), y -> y.likeliest(4095));
        refused(NONE, Sentences::town, y -> y.likeliest(4095), y -> y.likeliest(marks(1, 8, 9)));
        sentence("26: BEYOND. (also before NONE)");
        refusedFor(outside(0, 4095), BEYOND, Sentences::town, (y, v) -> y.likeliest(v));
        refusedFor(outside(0, 4095), BEYOND, ScribeTables::new, (y, v) -> y.likeliest(v));
    }

    private static void near() {
        sentence("27: The fewest MARKS (how many) by which a SAYING and another one that a WRITER PUTS as a set differ.");
        ScribeTables x = with("writer;writer cuts 0 1 2 3 4 5 6 7 8 9 10 11;soft;clerk;terse;writer cuts 4");
        each(new int[] {12, 12, 11, 1}, x.near(0, 0, 4095), x.near(0, 4095, 0), x.near(0, 1, 4095), x.near(0, 4094, 4095));
        each(new int[] {1, 12}, x.near(0, 2048, 0), x.near(0, 1365, 2730));
        all(0, x.near(0, 0, 0), x.near(0, 4095, 4095), x.near(1, 0, 0), x.near(1, 4095, 0), x.near(1, 1234, 0));
        // of 5, of 9, of both: the nearest
        each(new int[] {0, 0, 0, 1, 1}, x.near(2, marks(5), marks(5)), x.near(2, marks(9), marks(5)), x.near(2, marks(5, 9), marks(5)), x.near(2, 0, marks(5)), x.near(2, marks(0, 9), marks(5)));
        each(new int[] {0, 1, 11}, x.near(3, 0, 1), x.near(3, 2, 1), x.near(3, 4095, 1));
        each(new int[] {0, 2, 2}, x.near(4, 4095, 3), x.near(4, 4092, 3), x.near(4, 0, marks(10, 11)));
        each(new int[] {0, 1}, x.near(5, marks(4, 6), marks(6)), x.near(5, marks(4), marks(6)));
        changesNothing(Sentences::town, y -> y.near(0, 0, 0), y -> y.near(2, 4095, marks(1, 2)));
        sentence("27: NONE.");
        refused(NONE, Sentences::town, y -> y.near(0, 0, marks(1)), y -> y.near(1, 4095, 4095), y -> y.near(2, 0, 7));
        sentence("27: BEYOND.");
        refusedFor(outside(0, 2), BEYOND, Sentences::town, (y, w) -> y.near(w, 0, 0));
        refusedFor(outside(0, 4095), BEYOND, Sentences::town, (y, v) -> y.near(0, v, 0));
        refusedFor(outside(0, 4095), BEYOND, Sentences::town, (y, v) -> y.near(0, 0, v));
        refused(BEYOND, ScribeTables::new, y -> y.near(0, 0, 0));
        sentence("27: BEYOND, then NONE (in this order)");
        refusedFor(outside(0, 4095), BEYOND, Sentences::town, (y, v) -> y.near(0, v, marks(1)));
    }

    private static void honest() {
        sentence("28: SAYINGS that a WRITER PUTS as they are: how many.");
        ScribeTables x = with("writer;writer cuts 0 1 2 3 4 5 6 7 8 9 10 11;writer cuts 11;soft;poet adds 8;form");
        // all; the empty one alone; those without 11; those without harsh ones
        each(new int[] {4096, 1, 2048, 256}, x.honest(0), x.honest(1), x.honest(2), x.honest(3));
        // 4 and 8 are in it, 9 to 11 aren't
        due(x.honest(4), 128);
        // at most four MARKS
        due(x.honest(5), 1 + 12 + 66 + 220 + 495);
        x = with("writer cuts 0 adds 1 when 0;clerk;deaf;terse", "writer adds 1 2 3 4 5 6 7 8 9 10 11 when 0;poet adds 0 1 2 3 4 5 6 7 8 9 10 11");
        // those without MARK 0; those with it and at most four, all in all
        each(new int[] {2048, 1 + 11 + 55 + 165, 64, 79}, x.honest(0), x.honest(1), x.honest(2), x.honest(3));
        // without MARK 0, and the one that has all; that one alone
        each(new int[] {2049, 1}, x.honest(4), x.honest(5));
        changesNothing(Sentences::town, y -> y.honest(0), y -> y.honest(2));
        sentence("28: BEYOND.");
        refusedFor(outside(0, 2), BEYOND, Sentences::town, (y, w) -> y.honest(w));
        refusedFor(outside(0, 5), BEYOND, Sentences::fullTown, (y, w) -> y.honest(w));
        refused(BEYOND, ScribeTables::new, y -> y.honest(0));
    }

    /** MARK 0 becomes 1, 1 becomes 2, 2 becomes 0 in a round. */
    private static ScribeTables wheel() {
        return with("writer cuts 2 adds 3 when 2;writer cuts 1 adds 2 when 1;writer cuts 0 adds 1 when 0;writer cuts 3 adds 0 when 3");
    }

    private static void round() {
        sentence("29: What becomes of a SAYING that goes from WRITER 0 to 1, .. to the last, each PUTTING what came, n times (0 to 20) round.");
        ScribeTables x = wheel();
        for (int n = 0; n <= 20; n++) due(x.round(1, n), 1 << n % 3);
        due(x.round(marks(0, 5), 20), marks(2, 5));
        each(new int[] {0, 4095 - 8, 7, 4095 - 8}, x.round(0, 20), x.round(4095 - 8, 20), x.round(7, 19), x.round(4095, 1));
        sentence("29: from the first to the last");
        x = with("writer adds 1 when 0;writer adds 2 when 1;writer adds 3 when 2", "writer adds 4 when 3;writer adds 5 when 4;writer adds 6 when 5");
        each(new int[] {1, 127, 127}, x.round(1, 0), x.round(1, 1), x.round(1, 20));
        x = with("writer adds 6 when 5;writer adds 5 when 4;writer adds 4 when 3", "writer adds 3 when 2;writer adds 2 when 1;writer adds 1 when 0");
        for (int n = 0; n <= 6; n++) due(x.round(1, n), (2 << n) - 1);
        due(x.round(1, 20), 127);
        sentence("29: no time round, or no WRITERS: as it came");
        x = fullTown();
        for (int s = 0; s < 4096; s += 455) due(x.round(s, 0), s);
        for (int s = 0; s < 4096; s += 455) due(new ScribeTables().round(s, 20), s);
        changesNothing(Sentences::town, y -> y.round(4095, 20), y -> y.round(0, 0));
        sentence("29: BEYOND.");
        refusedFor(outside(0, 20), BEYOND, Sentences::town, (y, n) -> y.round(0, n));
        refusedFor(outside(0, 4095), BEYOND, Sentences::town, (y, s) -> y.round(s, 1));
        refusedFor(outside(0, 4095), BEYOND, ScribeTables::new, (y, s) -> y.round(s, 0));
    }

    private static void settles() {
        sentence("30: After how many such rounds (1 to 100) it is first a set that it has been already (as told, or behind a round).");
        ScribeTables x = wheel();
        // again as told; MARK 3 becomes 0 and never comes again
        each(new int[] {3, 3, 1, 1, 1}, x.settles(1), x.settles(marks(0, 1)), x.settles(0), x.settles(7), x.settles(marks(9)));
        each(new int[] {1, 4, 4}, x.settles(4095 - 8), x.settles(marks(3)), x.settles(marks(1, 3)));
        // again as behind a round
        x = with("writer adds 6 when 5;writer adds 5 when 4;writer adds 4 when 3", "writer adds 3 when 2;writer adds 2 when 1;writer adds 1 when 0");
        for (int m = 0; m < 6; m++) due(x.settles(marks(m)), 7 - m);
        each(new int[] {1, 1, 1}, x.settles(marks(6)), x.settles(0), x.settles(4095));
        due(with("writer cuts 3").settles(marks(3)), 2);
        due(with("clerk").settles(0), 2);
        due(with("clerk").settles(1), 1);
        // five MARKS in a wheel, by way of MARK 5
        x = with("writer cuts 4 adds 5 when 4;writer cuts 3 adds 4 when 3;writer cuts 2 adds 3 when 2",
            "writer cuts 1 adds 2 when 1;writer cuts 0 adds 1 when 0;writer cuts 5 adds 0 when 5");
        each(new int[] {5, 5, 1, 6}, x.settles(1), x.settles(marks(0, 2)), x.settles(31), x.settles(32));
        due(x.round(1, 4), 16);
        due(x.round(1, 5), 1);
        all(1, new ScribeTables().settles(0), new ScribeTables().settles(4095));
        settlesLate();
        changesNothing(Sentences::town, y -> y.settles(0), y -> y.settles(4095));
        sentence("30: BEYOND.");
        refusedFor(outside(0, 4095), BEYOND, Sentences::town, (y, s) -> y.settles(s));
        refusedFor(outside(0, 4095), BEYOND, ScribeTables::new, (y, s) -> y.settles(s));
    }

    /** The latest that a search found: a set comes again behind 90 rounds. */
    private static void settlesLate() {
        int[][] laws = {{PLAIN, 72, 2114, 1090}, {FORM, 73, 1032, 1025}, {FORM, 2052, 3073, 2117}, {SOFT, 116, 4, 20}, {FORM, 256, 3328, 333}, {FORM, 1538, 2560, 2481}};
        ScribeTables x = new ScribeTables();
        for (int w = 0; w < 6; w++) {
            x.writer(PLAIN);
            for (int what = 0; what < 4; what++) x.law(w, what, laws[w][what]);
        }
        // those behind 0 to 89 rounds are all unlike, the one behind 90 is the one behind 74
        int[] been = new int[91];
        been[0] = 2630;
        for (int r = 0; r < 90; r++) been[r + 1] = x.round(been[r], 1);
        for (int i = 0; i < 90; i++) for (int k = 0; k < i; k++) if (been[i] == been[k]) due(i, -1);
        due(been[90], been[74]);
        for (int r = 0; r <= 90; r++) due(x.settles(been[r]), Math.max(90 - r, 16));
        for (int n = 0; n <= 20; n++) due(x.round(been[0], n), been[n]);
    }

    public static void main(String[] args) {
        many();
        said();
        hands();
        likeliest();
        near();
        honest();
        round();
        settles();
        end("promises 23 to 30");
    }
}
