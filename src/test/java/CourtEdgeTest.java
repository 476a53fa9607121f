/** The edges of promises 31 to 36 and of what "Terms" says of DRAWS. */
public final class CourtEdgeTest extends Sentences {
    private static final String ALL = "0 1 2 3 4 5 6 7 8 9 10 11";

    private static void court() {
        sentence("31: how many MARKS of the SAYING are lacking then, and 100 times how many are there that weren't in it, together.");
        ScribeTables x = with("writer;writer cuts " + ALL, "poet adds " + ALL, "soft;writer cuts 0 adds 1 2 3 4 5 6 7 8 9 10 11 when 0");
        all(0, x.court(0, 0, 0), x.court(0, 0, 4095), x.court(0, 0, 1234), x.court(1, 1, 0));
        each(new int[] {12, 12, 12, 1}, x.court(1, 0, 4095), x.court(0, 1, 4095), x.court(1, 1, 4095), x.court(1, 0, 2048));
        each(new int[] {1200, 1200, 1100, 0}, x.court(2, 0, 0), x.court(0, 2, 0), x.court(2, 2, 1), x.court(0, 2, 4095));
        each(new int[] {1101, 1101, 11}, x.court(4, 0, 1), x.court(0, 4, 1), x.court(1, 0, 2047));
        each(new int[] {101, 404, 4, 202}, x.court(3, 0, marks(8)), x.court(3, 3, marks(8, 9, 10, 11)), x.court(0, 3, 4095), x.court(0, 3, marks(8, 11)));
        sentence("31: first the WRITER, then the one who reads back");
        x = with("writer adds 5 when 1;writer cuts 1 5;writer adds 6 when 5");
        all(1, x.court(0, 1, marks(1)), x.court(1, 0, marks(1)));
        each(new int[] {200, 100}, x.court(0, 2, marks(1)), x.court(2, 0, marks(1)));
        sentence("31: what is lacking is lacking of what was said, though it stood written for a while");
        x = with("writer adds 3 when 2;writer cuts 3");
        each(new int[] {0, 1, 100}, x.court(0, 1, marks(2)), x.court(0, 1, marks(2, 3)), x.court(1, 0, marks(2)));
        changesNothing(Sentences::town, y -> y.court(0, 2, 4095), y -> y.court(1, 1, 0));
        sentence("31: BEYOND.");
        refusedFor(outside(0, 2), BEYOND, Sentences::town, (y, w) -> y.court(w, 0, 0));
        refusedFor(outside(0, 2), BEYOND, Sentences::town, (y, w) -> y.court(0, w, 0));
        refusedFor(outside(0, 5), BEYOND, Sentences::fullTown, (y, w) -> y.court(5, w, 0));
        refusedFor(outside(0, 4095), BEYOND, Sentences::town, (y, s) -> y.court(0, 1, s));
        refused(BEYOND, ScribeTables::new, y -> y.court(0, 0, 0));
    }

    private static void witness() {
        sentence("32: The WRITER who as reader leaves fewest SAYINGS (of 4096) otherwise than said, of a WRITER.");
        // of several the least number; a WRITER may be its own witness
        ScribeTables x = with("soft;writer cuts 3;poet adds 3;writer;clerk;writer");
        each(new int[] {0, 1, 0, 3, 3, 3}, x.witness(0), x.witness(1), x.witness(2), x.witness(3), x.witness(4), x.witness(5));
        due(with("writer").witness(0), 0);
        due(with("poet adds 8 9 10 11").witness(0), 0);
        sentence("32: the last one does best");
        x = with("writer cuts 0;writer cuts 1;writer cuts 2;writer cuts 3;writer cuts 4;writer");
        due(x.witness(5), 5);
        due(x.witness(0), 0);
        sentence("32: who adds again what was cut is right as often as who cuts it again, and more often than who cuts more");
        x = with("writer cuts 7;writer adds 7 when 8;writer cuts 8 7");
        each(new int[] {0, 1, 0}, x.witness(0), x.witness(1), x.witness(2));
        due(with("writer cuts 0 7;writer adds 7 when 8;writer cuts 7").witness(2), 1);
        sentence("32: SAYING 0 is one of them");
        // the clerk is right for 31 SAYINGS that have MARK 0, the soft one for 32, of which one is empty
        x = with("clerk cuts 0;soft;soft cuts 0 4 5");
        due(x.witness(2), 1);
        sentence("32: SAYING 4095 is one of them");
        // the deaf one is right for one SAYING, the plain one for two, of which one has all MARKS
        x = with("deaf cuts 2;writer;poet cuts 5 adds 0 1 3 6 7 8 9 10 11");
        due(x.witness(2), 1);
        sentence("32: one who is right for one SAYING leaves fewer than one who is for none");
        due(with("terse;poet cuts 0 1 2 3 5 6 7 adds 4 10").witness(1), 1);
        changesNothing(Sentences::town, y -> y.witness(0), y -> y.witness(2));
        sentence("32: BEYOND.");
        refusedFor(outside(0, 2), BEYOND, Sentences::town, (y, w) -> y.witness(w));
        refusedFor(outside(0, 5), BEYOND, Sentences::fullTown, (y, w) -> y.witness(w));
        refused(BEYOND, ScribeTables::new, y -> y.witness(0));
    }

    private static ScribeTables coupleWith(int pence) {
        ScribeTables x = couple();
        x.change(0, PENCE, pence);
        x.change(1, PENCE, pence);
        return x;
    }

    private static void price() {
        sentence("33: PRICE (0 to 99) of a WRITER with which it has most PURSE behind n YEARS (1 to 20) AHEAD: the least.");
        // two letters a year are paid by both: n years are 2 * n prices of each
        int[] pence = {0, 1, 99, 100, 197, 198, 199, 99999};
        int[] inOne = {0, 1, 99, 50, 98, 99, 99, 99};
        int[] inTwenty = {0, 1, 3, 4, 7, 6, 6, 99};
        for (int i = 0; i < pence.length; i++) {
            due(coupleWith(pence[i]).price(0, 1), inOne[i]);
            due(coupleWith(pence[i]).price(0, 20), inTwenty[i]);
        }
        due(coupleWith(100).price(0, 2), 25);
        due(coupleWith(100).price(0, 19), 4);
        due(coupleWith(200).price(0, 19), 8);
        due(coupleWith(200).price(0, 20), 5);
        sentence("33: of that WRITER alone");
        ScribeTables x = with("writer price 9;writer price 60;person by 0;person by 1 pence 30;tie 0 1");
        // 1 has too little for its own WRITER: there are no letters, whatever 0 takes
        due(x.price(0, 1), 0);
        due(x.price(1, 1), 15);
        x.change(1, PENCE, 60);
        due(x.price(0, 1), 99);
        due(x.price(1, 1), 30);
        // what it has in its PURSE already alters nothing
        x.send(0, 1, 0);
        x.change(0, PENCE, 99);
        x.change(1, PENCE, 99);
        due(x.writerOf(0, PURSE), 9);
        due(x.price(0, 1), 99);
        due(x.price(1, 1), 99);
        sentence("33: nobody pays it: the least");
        all(0, with("writer").price(0, 1), with("writer;person by 0;person by 0").price(0, 20));
        x = couple();
        x.change(0, LETTERED, 1);
        x.change(1, LETTERED, 1);
        due(x.price(0, 1), 0);
        x.change(1, LETTERED, 0);
        due(x.price(0, 1), 50);
        changesNothing(Sentences::town, y -> y.price(0, 1), y -> y.price(2, 20));
        sentence("33: BEYOND.");
        refusedFor(outside(1, 20), BEYOND, Sentences::town, (y, n) -> y.price(0, n));
        refusedFor(outside(0, 2), BEYOND, Sentences::town, (y, w) -> y.price(w, 1));
        refusedFor(outside(0, 5), BEYOND, Sentences::fullTown, (y, w) -> y.price(w, 20));
        refused(BEYOND, ScribeTables::new, y -> y.price(0, 1));
        sentence("33: STATE. (YEAR would be above 999)");
        changesNothing(() -> townIn(979), y -> y.price(0, 20));
        refused(STATE, () -> townIn(980), y -> y.price(0, 20));
        changesNothing(() -> townIn(980), y -> y.price(0, 19));
        changesNothing(() -> townIn(998), y -> y.price(0, 1));
        refused(STATE, () -> townIn(998), y -> y.price(0, 2));
        refusedFor(new int[] {1, 20}, STATE, () -> townIn(999), (y, n) -> y.price(0, n));
        sentence("33: BEYOND, then STATE (in this order)");
        refusedFor(outside(1, 20), BEYOND, () -> townIn(999), (y, n) -> y.price(0, n));
        refusedFor(outside(0, 2), BEYOND, () -> townIn(999), (y, w) -> y.price(w, 1));
    }

    private static void school() {
        sentence("34: each n-th person (2 to 8; numbers that n divides, 0 too) is LETTERED: how many times fewer a WRITER is paid in one YEAR AHEAD, writing and reading out, than as it is");
        // each of eight writes seven letters and gets seven
        ScribeTables x = eight();
        int[] lettered = {4, 3, 2, 2, 2, 2, 1};
        for (int n = 2; n <= 8; n++) due(x.school(n), 14 * lettered[n - 2]);
        for (int p = 1; p < 8; p++) x.tie(0, p, false);
        // those but 0 write six and get six
        for (int n = 2; n <= 8; n++) due(x.school(n), 12 * (lettered[n - 2] - 1));
        x.law(0, PRICE, 1);
        for (int n = 2; n <= 8; n++) due(x.school(n), 12 * (lettered[n - 2] - 1));
        sentence("34: which ones are those that n divides: each has but one TIE, to one who isn't");
        int[] tied = {7, 6, 5, 4, 2, 1};
        for (int n = 2; n <= 8; n++) {
            for (int p = 0; p < 8; p++) {
                x = eight();
                for (int q = 0; q < 8; q++) for (int r = 0; r < q; r++) x.tie(q, r, q == p && r == tied[p % 6] || r == p && q == tied[p % 6]);
                int other = tied[p % 6];
                due(x.school(n), other == p ? 0 : 2 * (p % n == 0 ? 1 : 0) + 2 * (other % n == 0 ? 1 : 0));
            }
        }
        sentence("34: (or would be, by a PRICE of 0)");
        x = with("writer price 0;writer;person by 0 pence 0;person by 1;tie 0 1");
        due(x.school(2), 2);
        x.law(1, PRICE, 0);
        due(x.school(2), 2);
        sentence("34: who is LETTERED already pays nobody as it is");
        x.change(0, LETTERED, 1);
        due(x.school(2), 0);
        x.change(1, LETTERED, 1);
        due(x.school(2), 0);
        sentence("34: one without PENCE has letters once LETTERED, for which the other one pays");
        x = couple();
        x.change(0, PENCE, 3);
        due(x.school(2), -2);
        x.change(0, PENCE, 4);
        // as it is: one letter, by both; then two, by the other one
        due(x.school(2), 0);
        sentence("34: both YEARS AHEAD begin with all as it is");
        // 8 PENCE are the two letters of one YEAR
        x = coupleWith(8);
        due(x.school(2), 2);
        x = coupleWith(4);
        due(x.school(2), 1);
        due(new ScribeTables().school(2), 0);
        due(with("writer;person by 0").school(8), 0);
        changesNothing(Sentences::town, y -> y.school(2), y -> y.school(8));
        sentence("34: BEYOND.");
        refusedFor(outside(2, 8), BEYOND, Sentences::town, (y, n) -> y.school(n));
        refusedFor(new int[] {0, 1, 9, -2}, BEYOND, ScribeTables::new, (y, n) -> y.school(n));
        sentence("34: STATE: YEAR is 999.");
        changesNothing(() -> townIn(998), y -> y.school(2));
        refusedFor(new int[] {2, 8}, STATE, () -> townIn(999), (y, n) -> y.school(n));
        sentence("34: BEYOND, then STATE (in this order)");
        refusedFor(outside(2, 8), BEYOND, () -> townIn(999), (y, n) -> y.school(n));
    }

    private static long after(long z) {
        return (int) (z * 1103515245L + 12345L);
    }

    private static int given(long z) {
        return (int) ((z & 0xFFFFFFFFL) >> 8);
    }

    private static void gossip() {
        sentence("35: n times (1 to 12) a person (the rest of a draw by how many there are) gets a MARK (the rest of the next draw by 12) to BELIEFS");
        int[] seeds = {1, 0, -1, 12345, LEAST, MOST, 77, -987654321};
        for (int people = 1; people <= 8; people++) {
            for (int n = 1; n <= 12; n++) {
                ScribeTables x = eight();
                if (people < 8) {
                    x = with("writer");
                    for (int p = 0; p < people; p++) x.person(0);
                }
                int seed = seeds[(people + n) % 8];
                x.seed(seed);
                int[] beliefs = new int[people];
                int any = 0;
                long z = seed;
                for (int i = 0; i < n; i++) {
                    z = after(z);
                    int who = given(z) % people;
                    z = after(z);
                    beliefs[who] |= 1 << given(z) % 12;
                    any |= beliefs[who];
                }
                due(x.gossip(n), any);
                for (int p = 0; p < people; p++) due(x.of(p, BELIEFS), beliefs[p]);
                due(x.count(6), (int) z);
                all(0, x.now(1), x.now(3), x.status(-1));
            }
        }
        sentence("35: MARKS that anybody believes then, as a set");
        ScribeTables x = couple();
        x.change(1, BELIEFS, marks(0, 5));
        // the draws of z 1: 0 gets MARK 8
        due(x.gossip(1), marks(0, 5, 8));
        due(x.of(0, BELIEFS), marks(8));
        due(x.of(1, BELIEFS), marks(0, 5));
        due(x.of(0, TRUTH), marks(1));
        sentence("35: BEYOND.");
        refusedFor(outside(1, 12), BEYOND, Sentences::town, (y, n) -> y.gossip(n));
        sentence("35: STATE: there is nobody.");
        refusedFor(new int[] {1, 12}, STATE, ScribeTables::new, (y, n) -> y.gossip(n));
        refused(STATE, () -> with("writer;soft"), y -> y.gossip(5));
        sentence("35: BEYOND, then STATE (in this order)");
        refusedFor(outside(1, 12), BEYOND, ScribeTables::new, (y, n) -> y.gossip(n));
    }

    private static void seed() {
        sentence("36: z becomes v: what it was. / DRAWS: z is told (1 at first) / z may be any int: that is no finding");
        int[] all = {0, LEAST, MOST, -1, BEYOND, FULL, KIND, NONE, STATE, MISSING, SIZE, SIZE - 1, -1000000, 1};
        ScribeTables x = new ScribeTables();
        due(x.count(6), 1);
        int was = 1;
        for (int v : all) {
            due(x.seed(v), was);
            due(x.count(6), v);
            was = v;
        }
        for (int i = -1; i < 7; i++) due(x.status(i), 0);
        // seed alone tells by what the next draws go
        x = couple();
        x.seed(LEAST);
        int first = x.gossip(1);
        x.change(0, BELIEFS, 0);
        x.change(1, BELIEFS, 0);
        x.seed(LEAST);
        due(x.gossip(1), first);
        sentence("36: nothing but z has changed");
        x = town();
        x.seed(0);
        due(x.seed(-99), 0);
        due(x.now(0), 3);
        changesNothing(Sentences::town, y -> y.seed(-99) == -99 ? 0 : 1);
    }

    public static void main(String[] args) {
        court();
        witness();
        price();
        school();
        gossip();
        seed();
        end("promises 31 to 36");
    }
}
