/** The edges of promises 10 to 16 and of what "Terms" says of PUTS, LETTERS and YEARS. */
public final class LettersEdgeTest extends Sentences {
    private static ScribeTables oneOf(int kind, int cuts, int adds, int when) {
        ScribeTables x = new ScribeTables();
        x.writer(kind);
        x.law(0, CUTS, cuts);
        x.law(0, ADDS, adds);
        x.law(0, WHEN, when);
        return x;
    }

    private static void putsOfWriter() {
        sentence("PUTS: WRITER: it without CUTS, and ADDS, if it has any of WHEN.");
        ScribeTables x = oneOf(PLAIN, 0, 0, 0);
        for (int s = 0; s < 4096; s += 273) due(x.puts(0, s), s);
        due(x.puts(0, 4095), 4095);
        x = oneOf(PLAIN, 4095, 0, 0);
        due(x.puts(0, 4095), 0);
        due(x.puts(0, 0), 0);
        // without WHEN never, with all of WHEN for each SAYING but the empty one
        x = oneOf(PLAIN, 0, 4095, 0);
        due(x.puts(0, 4095 - 16), 4095 - 16);
        x = oneOf(PLAIN, 0, marks(0, 11), 4095);
        due(x.puts(0, 0), 0);
        for (int m = 0; m < 12; m++) due(x.puts(0, marks(m)), marks(0, m, 11));
        // the first and the last of several WHEN; one that has just the others
        x = oneOf(PLAIN, 0, marks(5), marks(0, 11));
        due(x.puts(0, marks(0)), marks(0, 5));
        due(x.puts(0, marks(11)), marks(5, 11));
        due(x.puts(0, 4095 - marks(0, 5, 11)), 4095 - marks(0, 5, 11));
        // what is cut is still what was said, and ADDS aren't cut
        x = oneOf(PLAIN, 4095, 4095, marks(3));
        due(x.puts(0, marks(3)), 4095);
        due(x.puts(0, 4095 - marks(3)), 0);
    }

    private static void putsOfSoftAndPoet() {
        sentence("PUTS: SOFT: as a WRITER does, then MARK m - 4 instead of each HARSH MARK m. / HARSH are MARKS 8 to 11.");
        ScribeTables x = oneOf(SOFT, 0, 0, 0);
        for (int m = 0; m < 12; m++) due(x.puts(0, marks(m)), marks(m < 8 ? m : m - 4));
        due(x.puts(0, 0), 0);
        due(x.puts(0, 4095), 255);
        due(x.puts(0, marks(4, 8)), marks(4));
        due(x.puts(0, marks(7, 11)), marks(7));
        // the cuts come before: 8 is cut, 4 that comes of 8 isn't; ADDS are softened
        due(oneOf(SOFT, marks(8), 0, 0).puts(0, marks(8, 9)), marks(5));
        due(oneOf(SOFT, marks(4), 0, 0).puts(0, marks(4, 8)), marks(4));
        x = oneOf(SOFT, 0, marks(8, 11), marks(0));
        due(x.puts(0, marks(0)), marks(0, 4, 7));
        due(x.puts(0, marks(1)), marks(1));
        // WHEN is asked of what was said, not of what it is softened to
        due(oneOf(SOFT, 0, marks(0), marks(4)).puts(0, marks(8)), marks(4));
        due(oneOf(SOFT, 0, marks(0), marks(8)).puts(0, marks(8)), marks(0, 4));
        sentence("PUTS: POET: as a SOFT one, and ADDS always.");
        x = oneOf(POET, 0, 0, 4095);
        due(x.puts(0, 0), 0);
        due(x.puts(0, 4095), 255);
        x = oneOf(POET, 0, 4095, 0);
        due(x.puts(0, 0), 4095);
        x = oneOf(POET, marks(8), marks(8), 0);
        due(x.puts(0, 0), marks(8));
        due(x.puts(0, marks(8)), marks(8));
        due(x.puts(0, marks(9)), marks(5, 8));
        x = oneOf(POET, 0, marks(11), marks(1));
        due(x.puts(0, marks(1)), marks(1, 7, 11));
        due(x.puts(0, marks(2)), marks(2, 11));
    }

    private static void putsOfFormsAndDeaf() {
        sentence("PUTS: FORM: as a WRITER, of that the 4 least MARKS alone.");
        ScribeTables x = oneOf(FORM, 0, 0, 0);
        due(x.puts(0, 0), 0);
        due(x.puts(0, marks(11)), marks(11));
        due(x.puts(0, marks(9, 10, 11)), marks(9, 10, 11));
        due(x.puts(0, marks(8, 9, 10, 11)), marks(8, 9, 10, 11));
        due(x.puts(0, marks(7, 8, 9, 10, 11)), marks(7, 8, 9, 10));
        due(x.puts(0, 4095), marks(0, 1, 2, 3));
        due(oneOf(FORM, 15, 0, 0).puts(0, 4095), marks(4, 5, 6, 7));
        due(oneOf(FORM, 0, marks(0), marks(11)).puts(0, marks(8, 9, 10, 11)), marks(0, 8, 9, 10));
        sentence("PUTS: CLERK: as a FORM, and MARK 0.");
        x = oneOf(CLERK, 0, 0, 0);
        due(x.puts(0, 0), 1);
        due(x.puts(0, marks(0)), 1);
        due(x.puts(0, marks(8, 9, 10, 11)), marks(0, 8, 9, 10, 11));
        due(x.puts(0, marks(0, 8, 9, 10, 11)), marks(0, 8, 9, 10));
        due(x.puts(0, 4095), marks(0, 1, 2, 3));
        due(oneOf(CLERK, marks(0), 0, 0).puts(0, 4095), marks(0, 1, 2, 3, 4));
        sentence("PUTS: TERSE: as a FORM, of that the 2 least alone.");
        x = oneOf(TERSE, 0, 0, 0);
        due(x.puts(0, 0), 0);
        due(x.puts(0, marks(11)), marks(11));
        due(x.puts(0, marks(10, 11)), marks(10, 11));
        due(x.puts(0, marks(9, 10, 11)), marks(9, 10));
        due(x.puts(0, 4095), marks(0, 1));
        sentence("PUTS: DEAF: as a WRITER does of the even MARKS (0, 2, ..) of it.");
        x = oneOf(DEAF, 0, 0, 0);
        for (int m = 0; m < 12; m++) due(x.puts(0, marks(m)), m % 2 == 0 ? marks(m) : 0);
        due(x.puts(0, 4095), marks(0, 2, 4, 6, 8, 10));
        x = oneOf(DEAF, 0, marks(11), marks(1, 3));
        due(x.puts(0, 4095), marks(0, 2, 4, 6, 8, 10));
        due(oneOf(DEAF, marks(0), marks(0, 11), marks(0)).puts(0, marks(0, 1)), marks(0, 11));
    }

    private static void puts() {
        putsOfWriter();
        putsOfSoftAndPoet();
        putsOfFormsAndDeaf();
        changesNothing(Sentences::town, y -> y.puts(0, 0), y -> y.puts(2, 4095));
        sentence("10: BEYOND.");
        refusedFor(outside(0, 4095), BEYOND, Sentences::town, (y, s) -> y.puts(0, s));
        refusedFor(outside(0, 2), BEYOND, Sentences::town, (y, w) -> y.puts(w, 0));
        refusedFor(outside(0, 5), BEYOND, Sentences::fullTown, (y, w) -> y.puts(w, 4095));
        refused(BEYOND, ScribeTables::new, y -> y.puts(0, 0));
    }

    private static void says() {
        sentence("11: What one says on its own: TRUTH and BELIEFS together.");
        ScribeTables x = eight();
        due(x.says(0), 0);
        x.change(7, TRUTH, marks(0, 1));
        due(x.says(7), 3);
        x.change(7, BELIEFS, marks(1, 11));
        due(x.says(7), marks(0, 1, 11));
        x.change(7, TRUTH, 4095);
        due(x.says(7), 4095);
        due(x.says(6), 0);
        changesNothing(Sentences::town, y -> y.says(0), y -> y.says(3));
        sentence("11: BEYOND.");
        refusedFor(outside(0, 3), BEYOND, Sentences::town, (y, p) -> y.says(p));
        refusedFor(outside(0, 7), BEYOND, Sentences::fullTown, (y, p) -> y.says(p));
        refused(BEYOND, ScribeTables::new, y -> y.says(0));
    }

    private static ScribeTables poorTown() {
        ScribeTables x = fullTown();
        for (int p = 0; p < 8; p++) x.change(p, PENCE, 0);
        return x;
    }

    private static void read() {
        sentence("12: What would be READ of a SAYING from one to another one (nothing comes of it).");
        changesNothing(Sentences::town, y -> y.read(0, 1, 4095), y -> y.read(3, 0, 0), y -> y.read(2, 3, 1));
        // no PENCE are asked for
        changesNothing(LettersEdgeTest::poorTown, y -> y.read(0, 1, 4095), y -> y.read(7, 6, 5));
        ScribeTables x = with("writer cuts 0;writer cuts 11;person by 0 pence 0;person by 1 pence 0");
        due(x.read(0, 1, 4095), 4095 - marks(0, 11));
        due(x.read(1, 0, 4095), 4095 - marks(0, 11));
        due(x.read(0, 1, 0), 0);
        sentence("12: (One who is LETTERED writes, reads just what is there.)");
        x.change(0, LETTERED, 1);
        due(x.read(0, 1, 4095), 2047);
        due(x.read(1, 0, 4095), 2047);
        x.change(1, LETTERED, 1);
        due(x.read(0, 1, 4095), 4095);
        x.change(0, LETTERED, 0);
        due(x.read(0, 1, 4095), 4094);
        sentence("12: BEYOND: also one and the same.");
        refusedFor(new int[] {0, 1, 2, 3}, BEYOND, Sentences::town, (y, p) -> y.read(p, p, 0));
        refusedFor(outside(0, 3), BEYOND, Sentences::town, (y, p) -> y.read(p, 0, 0));
        refusedFor(outside(0, 3), BEYOND, Sentences::town, (y, p) -> y.read(0, p, 0));
        refusedFor(outside(0, 4095), BEYOND, Sentences::town, (y, s) -> y.read(0, 1, s));
        refused(BEYOND, ScribeTables::new, y -> y.read(0, 1, 0));
    }

    /** Two who have as many PENCE as told, of two WRITERS who take 7 and 30. */
    private static ScribeTables pair(int pence, int otherPence) {
        ScribeTables x = with("writer price 7;writer price 30;person by 0;person by 1");
        x.change(0, PENCE, pence);
        x.change(1, PENCE, otherPence);
        return x;
    }

    private static void pay(ScribeTables x, int... want) {
        each(want, x.of(0, PENCE), x.of(1, PENCE), x.writerOf(0, PURSE), x.writerOf(1, PURSE), x.now(1));
    }

    private static void send() {
        sentence("13: PRICE goes from PENCE of a to a's WRITER's PURSE, from b to b's likewise");
        ScribeTables x = pair(7, 30);
        due(x.send(0, 1, 5), 5);
        pay(x, 0, 0, 7, 30, 1);
        x = pair(7, 30);
        due(x.send(1, 0, 5), 5);
        pay(x, 0, 0, 7, 30, 1);
        x = pair(99999, 99999);
        x.law(0, PRICE, 99);
        due(x.send(0, 1, 4095), 4095);
        pay(x, 99900, 99969, 99, 30, 1);
        // the same WRITER is paid by both
        x = couple();
        due(x.send(0, 1, 0), 0);
        due(x.writerOf(0, PURSE), 8);
        sentence("13: PRICE of 0: there are always enough PENCE");
        x = pair(0, 0);
        x.law(0, PRICE, 0);
        x.law(1, PRICE, 0);
        due(x.send(0, 1, 4095), 4095);
        due(x.of(1, BELIEFS), 4095);
        pay(x, 0, 0, 0, 0, 1);
        sentence("13: (LETTERED ones pay nothing)");
        x = pair(0, 30);
        x.change(0, LETTERED, 1);
        due(x.send(0, 1, 3), 3);
        pay(x, 0, 0, 0, 30, 1);
        x = pair(7, 0);
        x.change(1, LETTERED, 1);
        due(x.send(1, 0, 3), 3);
        pay(x, 0, 0, 7, 0, 1);
        sentence("13: b's BELIEFS get all MARKS of READ.");
        x = pair(99, 99);
        x.change(1, BELIEFS, marks(0));
        due(x.send(0, 1, marks(11)), marks(11));
        due(x.of(1, BELIEFS), marks(0, 11));
        due(x.of(0, BELIEFS), 0);
        due(x.of(1, TRUTH), 0);
        due(x.send(0, 1, 0), 0);
        due(x.of(1, BELIEFS), marks(0, 11));
        sentence("13: STATE: one hasn't enough PENCE.");
        refused(STATE, () -> pair(6, 30), y -> y.send(0, 1, 5), y -> y.send(1, 0, 5), y -> y.send(0, 1, 0));
        refused(STATE, () -> pair(7, 29), y -> y.send(0, 1, 5), y -> y.send(1, 0, 5));
        refused(STATE, () -> pair(0, 0), y -> y.send(0, 1, 4095));
        refused(STATE, LettersEdgeTest::poorTown, y -> y.send(0, 1, 1), y -> y.send(6, 7, 1));
        sentence("13: BEYOND: also one and the same.");
        refusedFor(new int[] {0, 1, 2, 3}, BEYOND, Sentences::town, (y, p) -> y.send(p, p, 0));
        refusedFor(outside(0, 3), BEYOND, Sentences::town, (y, p) -> y.send(p, 0, 0));
        refusedFor(outside(0, 3), BEYOND, Sentences::town, (y, p) -> y.send(0, p, 0));
        refusedFor(outside(0, 4095), BEYOND, Sentences::town, (y, s) -> y.send(0, 1, s));
        refused(BEYOND, ScribeTables::new, y -> y.send(0, 1, 0));
        sentence("13: BEYOND, then STATE (in this order)");
        refused(BEYOND, LettersEdgeTest::poorTown, y -> y.send(0, 0, 0), y -> y.send(0, 1, 4096), y -> y.send(0, 1, -1), y -> y.send(0, 8, 0), y -> y.send(-1, 0, 0));
    }

    private static void oneYear() {
        sentence("A YEAR: by numbers of the lesser, then of the other one of each TIE: a LETTER of what the lesser says on its own, then one back of what the other one does by then.");
        // with the flow of numbers a MARK goes all the way in one YEAR, against it one TIE a YEAR
        ScribeTables x = with("writer price 0;person by 0;person by 0;person by 0;person by 0;tie 2 3;tie 1 2;tie 0 1");
        x.change(0, TRUTH, marks(0));
        x.change(3, TRUTH, marks(11));
        due(x.years(1), 6);
        each(new int[] {marks(0), marks(0), marks(0, 11), marks(0)}, x.of(0, BELIEFS), x.of(1, BELIEFS), x.of(2, BELIEFS), x.of(3, BELIEFS));
        due(x.years(1), 6);
        each(new int[] {marks(0), marks(0, 11), marks(0, 11), marks(0, 11)}, x.of(0, BELIEFS), x.of(1, BELIEFS), x.of(2, BELIEFS), x.of(3, BELIEFS));
        // TIE 0 2 comes before 1 2, and 0 1 before both
        x = with("writer price 0;person by 0;person by 0;person by 0 truth 5;tie 1 2;tie 0 2;tie 0 1");
        due(x.years(1), 6);
        each(new int[] {marks(5), marks(5), 0}, x.of(0, BELIEFS), x.of(1, BELIEFS), x.of(2, BELIEFS));
        due(x.years(1), 6);
        each(new int[] {marks(5), marks(5), marks(5)}, x.of(0, BELIEFS), x.of(1, BELIEFS), x.of(2, BELIEFS));
        // what 1 knows comes to 2 when TIE 0 2 is over, and goes back to 1 in the same YEAR
        x = with("writer price 0;person by 0 ;person by 0 truth 5;person by 0;tie 1 2;tie 0 2");
        due(x.years(1), 4);
        each(new int[] {0, marks(5), marks(5)}, x.of(0, BELIEFS), x.of(1, BELIEFS), x.of(2, BELIEFS));
        sentence("A YEAR: if one hasn't so much, there is no LETTER");
        // 12 PENCE are three LETTERS: both ways, one way, then none
        x = with("writer;person by 0 truth 1 pence 12;person by 0 truth 2;tie 0 1");
        due(x.years(1), 2);
        due(x.years(1), 1);
        due(x.years(1), 0);
        due(x.of(0, PENCE), 0);
        due(x.of(1, PENCE), 88);
        due(x.now(1), 3);
        due(x.now(0), 3);
        // who has nothing left is passed by, the others aren't
        x = with("writer;person by 0 pence 3;person by 0;person by 0;tie 0 1;tie 1 2");
        due(x.years(1), 2);
        due(x.of(0, PENCE), 3);
    }

    private static void years() {
        sentence("14: n YEARS go (1 to 30): how many LETTERS are SENT.");
        ScribeTables x = eight();
        due(x.years(1), 56);
        due(x.years(30), 1680);
        due(x.now(1), 1736);
        due(x.now(0), 31);
        x = new ScribeTables();
        due(x.years(30), 0);
        due(x.now(0), 30);
        due(x.years(1), 0);
        due(x.now(0), 31);
        sentence("14: BEYOND.");
        refusedFor(outside(1, 30), BEYOND, Sentences::town, (y, n) -> y.years(n));
        refusedFor(new int[] {0, 31}, BEYOND, ScribeTables::new, (y, n) -> y.years(n));
        sentence("14: STATE: YEAR would be above 999. / YEAR is 0 at first; 999 at most");
        x = townIn(969);
        due(x.years(30), 0);
        due(x.now(0), 999);
        refused(STATE, () -> townIn(970), y -> y.years(30));
        x = townIn(998);
        due(x.years(1), 0);
        due(x.now(0), 999);
        refused(STATE, () -> townIn(998), y -> y.years(2), y -> y.years(30));
        refused(STATE, () -> townIn(999), y -> y.years(1), y -> y.years(30));
        sentence("14: BEYOND, then STATE (in this order)");
        refusedFor(outside(1, 30), BEYOND, () -> townIn(999), (y, n) -> y.years(n));
        sentence("14: LETTERS go in the last YEAR, too");
        x = inYear(eight(), 998);
        due(x.years(1), 56);
        due(x.now(1), 56 * 999);
    }

    private static void now() {
        sentence("15: What 0 YEAR, 1 SENT, 2 how many TIES, 3 MARKS that anybody's TRUTH has, 4 those that anybody believes, 5 PENCE and PURSES of all together.");
        for (int i = 0; i < 6; i++) due(new ScribeTables().now(i), 0);
        ScribeTables x = eight();
        for (int p = 0; p < 8; p++) {
            x.change(p, TRUTH, marks(p));
            x.change(p, BELIEFS, marks(11 - p));
            x.change(p, PENCE, 99999);
        }
        due(x.now(2), 28);
        due(x.now(3), 255);
        due(x.now(4), 4095 - 15);
        due(x.now(5), 8 * 99999);
        x.change(7, TRUTH, 4095);
        due(x.now(3), 4095);
        x.law(0, PRICE, 99);
        due(x.years(30), 1680);
        due(x.now(5), 8 * 99999);
        due(x.count(3), 1680 * 2 * 99);
        due(x.now(4), 4095);
        // WRITERS' PURSES stay, though PENCE are changed
        for (int p = 0; p < 8; p++) x.change(p, PENCE, 0);
        due(x.now(5), 1680 * 2 * 99);
        changesNothing(Sentences::town, y -> y.now(0), y -> y.now(1), y -> y.now(2), y -> y.now(3), y -> y.now(4), y -> y.now(5));
        sentence("15: BEYOND.");
        refusedFor(outside(0, 5), BEYOND, Sentences::town, (y, what) -> y.now(what));
        refusedFor(outside(0, 5), BEYOND, ScribeTables::new, (y, what) -> y.now(what));
    }

    private static void who() {
        sentence("16: PEOPLE who believe a MARK, as a set. / MARKS 0 to 11");
        ScribeTables x = eight();
        due(x.who(0), 0);
        for (int p = 0; p < 8; p++) x.change(p, BELIEFS, marks(0, p));
        due(x.who(0), 255);
        for (int m = 1; m < 8; m++) due(x.who(m), 1 << m);
        due(x.who(8), 0);
        due(x.who(11), 0);
        x.change(7, BELIEFS, marks(11));
        due(x.who(11), 128);
        due(x.who(0), 127);
        // TRUTH isn't belief
        x.change(6, TRUTH, 4095);
        due(x.who(11), 128);
        due(new ScribeTables().who(11), 0);
        changesNothing(Sentences::town, y -> y.who(0), y -> y.who(11));
        sentence("16: BEYOND.");
        refusedFor(outside(0, 11), BEYOND, Sentences::town, (y, m) -> y.who(m));
        refusedFor(outside(0, 11), BEYOND, ScribeTables::new, (y, m) -> y.who(m));
    }

    public static void main(String[] args) {
        puts();
        says();
        read();
        send();
        oneYear();
        years();
        now();
        who();
        end("promises 10 to 16");
    }
}
