/** For each promise of the document: ordinary inputs, the edges that it names, wrong inputs; all reckoned by hand. */
public final class PromiseTest {
    private static final int BEYOND = -1000001, FULL = -1000002, KIND = -1000003, NONE = -1000004,
        STATE = -1000005, MISSING = -1000006, SIZE = -1000007;
    private static final int PLAIN = 0, SOFT = 1, FORM = 2, POET = 3, CLERK = 4, DEAF = 5, TERSE = 6;
    private static final int TRUTH = 0, BELIEFS = 1, WRITER = 2, PENCE = 3, LETTERED = 4, LIES = 5;
    private static final int CUTS = 1, ADDS = 2, WHEN = 3, PRICE = 4, PURSE = 5;

    private static int promise = 0;
    private static int row = 0;
    private static int wrong = 0;

    private static void promise(int number) {
        promise = number;
        row = 0;
    }

    private static void due(int got, int want) {
        row++;
        if (got == want) return;
        wrong++;
        System.out.println("promise " + promise + ", row " + row + ": answered " + got + ", due is " + want);
    }

    /** The rows of a call that must all answer the same. */
    private static void all(int want, int... got) {
        for (int g : got) due(g, want);
    }

    private static int marks(int... marks) {
        int set = 0;
        for (int m : marks) set |= 1 << m;
        return set;
    }

    private static int text(ScribeTables x, String text) {
        for (int i = 0; i < text.length(); i++) x.feed(text.charAt(i), 1);
        return x.text();
    }

    private static ScribeTables with(String text) {
        ScribeTables x = new ScribeTables();
        int items = text(x, text);
        if (items < 1) {
            wrong++;
            System.out.println("promise " + promise + ": the text of the test itself is faulty: " + text + ": " + items);
        }
        return x;
    }

    private static ScribeTables inYear(ScribeTables x, int year) {
        while (x.now(0) < year) x.years(Math.min(30, year - x.now(0)));
        return x;
    }

    /** Two who pay the same plain writer 4 pence a letter, the first of whom knows MARK 1. */
    private static ScribeTables couple() {
        return with("writer;person by 0 truth 1;person by 0;tie 0 1");
    }

    private static void newObject() {
        promise(1);
        ScribeTables x = new ScribeTables();
        for (int i = 0; i < 8; i++) due(x.count(i), i == 6 ? 1 : 0);
        for (int i = 0; i < 6; i++) due(x.now(i), 0);
        for (int i = -1; i < 7; i++) due(x.status(i), 0);
        due(x.tear(), 0);
        due(x.undo(), NONE);
        for (int i = 0; i < 10; i++) due(x.as(i, PLAIN), MISSING);
        for (int i = 0; i < 4; i++) due(x.write(i, 0, 0), MISSING);
        due(x.text(), -1);
        due(x.writerOf(0, 0), BEYOND);
        due(x.of(0, 0), BEYOND);
        ScribeTables other = new ScribeTables();
        other.writer(0);
        due(x.count(0), 0);
    }

    private static void writer() {
        promise(2);
        ScribeTables x = new ScribeTables();
        all(BEYOND, x.writer(-1), x.writer(7), x.writer(Integer.MAX_VALUE), x.writer(Integer.MIN_VALUE));
        due(x.count(0), 0);
        for (int k = 0; k < 6; k++) due(x.writer(k + 1), k);
        for (int k = 0; k < 6; k++) due(x.writerOf(k, 0), k + 1);
        due(x.writer(0), FULL);
        due(x.writer(7), BEYOND);
        due(x.count(0), 6);
    }

    private static void writerOf() {
        promise(3);
        ScribeTables x = couple();
        int[] first = {PLAIN, 0, 0, 0, 4, 0};
        for (int i = 0; i < 6; i++) due(x.writerOf(0, i), first[i]);
        all(BEYOND, x.writerOf(0, -1), x.writerOf(0, 6), x.writerOf(1, 0), x.writerOf(-1, 0));
        x.send(0, 1, 0);
        due(x.writerOf(0, PURSE), 8);
    }

    private static void law() {
        promise(4);
        ScribeTables x = couple();
        due(x.law(0, 0, TERSE), PLAIN);
        due(x.law(0, 0, 0), TERSE);
        all(BEYOND, x.law(0, 0, 7), x.law(0, 0, -1));
        for (int what = CUTS; what <= WHEN; what++) {
            due(x.law(0, what, 4095), 0);
            due(x.law(0, what, what), 4095);
            all(BEYOND, x.law(0, what, 4096), x.law(0, what, -1));
            due(x.writerOf(0, what), what);
        }
        due(x.law(0, PRICE, 99), 4);
        due(x.law(0, PRICE, 0), 99);
        all(BEYOND, x.law(0, PRICE, 100), x.law(0, PRICE, -1), x.law(0, PURSE, 3), x.law(0, -1, 3), x.law(1, 0, 0), x.law(-1, 0, 0));
        due(x.writerOf(0, 0), PLAIN);
        due(x.writerOf(0, PRICE), 0);
        due(x.writerOf(0, PURSE), 0);
    }

    private static void person() {
        promise(5);
        ScribeTables x = new ScribeTables();
        due(x.person(0), BEYOND);
        x.writer(0);
        x.writer(0);
        all(BEYOND, x.person(-1), x.person(2));
        for (int p = 0; p < 8; p++) due(x.person(p % 2), p);
        for (int p = 0; p < 8; p++) due(x.of(p, WRITER), p % 2);
        due(x.person(0), FULL);
        due(x.person(2), BEYOND);
        due(x.count(1), 8);
    }

    private static void of() {
        promise(6);
        ScribeTables x = with("writer;writer;person by 1;person by 0 truth 3");
        int[] first = {0, 0, 1, 100, 0, 0};
        for (int i = 0; i < 6; i++) due(x.of(0, i), first[i]);
        all(BEYOND, x.of(0, -1), x.of(0, 6), x.of(2, 0), x.of(-1, 0), x.of(2, LIES));
        x.change(0, BELIEFS, marks(2, 3, 4));
        due(x.of(0, LIES), marks(2, 4));
        x.change(0, TRUTH, marks(4));
        due(x.of(0, LIES), marks(2));
        x.change(0, LETTERED, 1);
        due(x.of(0, LETTERED), 1);
    }

    private static void change() {
        promise(7);
        ScribeTables x = with("writer;writer;person by 0");
        due(x.change(0, TRUTH, 4095), 0);
        due(x.change(0, TRUTH, 5), 4095);
        due(x.change(0, BELIEFS, 4095), 0);
        due(x.change(0, BELIEFS, 6), 4095);
        due(x.change(0, WRITER, 1), 0);
        due(x.change(0, PENCE, 99999), 100);
        due(x.change(0, PENCE, 0), 99999);
        due(x.change(0, LETTERED, 1), 0);
        due(x.change(0, LETTERED, 0), 1);
        due(x.change(0, LETTERED, 1), 0);
        all(BEYOND, x.change(0, TRUTH, 4096), x.change(0, TRUTH, -1), x.change(0, BELIEFS, 4096), x.change(0, BELIEFS, -1),
            x.change(0, WRITER, 2), x.change(0, WRITER, -1), x.change(0, PENCE, 100000), x.change(0, PENCE, -1),
            x.change(0, LETTERED, 2), x.change(0, LETTERED, -1), x.change(0, LIES, 0), x.change(0, -1, 0),
            x.change(1, TRUTH, 0), x.change(-1, TRUTH, 0));
        int[] now = {5, 6, 1, 0, 1};
        for (int i = 0; i < 5; i++) due(x.of(0, i), now[i]);
    }

    private static void tie() {
        promise(8);
        ScribeTables x = with("writer;person by 0;person by 0;person by 0");
        due(x.tie(2, 0, true), 0);
        due(x.tie(0, 2, true), 1);
        due(x.now(2), 1);
        due(x.tie(0, 1, false), 0);
        due(x.tie(0, 2, false), 1);
        due(x.tie(2, 0, false), 0);
        due(x.now(2), 0);
        all(BEYOND, x.tie(1, 1, true), x.tie(0, 3, true), x.tie(3, 0, true), x.tie(-1, 0, true), x.tie(0, -1, false));
    }

    private static void ties() {
        promise(9);
        ScribeTables x = with("writer;person by 0;person by 0;person by 0;tie 2 0;tie 2 1");
        due(x.ties(0), 4);
        due(x.ties(1), 4);
        due(x.ties(2), 3);
        all(BEYOND, x.ties(3), x.ties(-1));
        x.tie(0, 2, false);
        due(x.ties(0), 0);
        due(x.ties(2), 2);
    }

    private static ScribeTables oneOf(int kind, int cuts, int adds, int when) {
        ScribeTables x = new ScribeTables();
        x.writer(kind);
        x.law(0, CUTS, cuts);
        x.law(0, ADDS, adds);
        x.law(0, WHEN, when);
        return x;
    }

    private static void puts() {
        promise(10);
        ScribeTables x = oneOf(PLAIN, marks(2, 3), marks(3, 9), marks(2, 5));
        due(x.puts(0, marks(0, 3, 11)), marks(0, 11));
        due(x.puts(0, marks(0, 5)), marks(0, 3, 5, 9));
        // WHEN is asked of the SAYING, though the cuts take that MARK; ADDS aren't cut
        due(x.puts(0, marks(2)), marks(3, 9));
        due(x.puts(0, 0), 0);
        x = oneOf(SOFT, marks(9), marks(11), marks(1));
        due(x.puts(0, marks(8, 9, 10)), marks(4, 6));
        due(x.puts(0, marks(1, 7)), marks(1, 7));
        due(x.puts(0, marks(1)), marks(1, 7));
        x = oneOf(POET, marks(0), marks(0, 10), marks(1));
        due(x.puts(0, 0), marks(0, 10));
        due(x.puts(0, marks(8)), marks(0, 4, 10));
        due(x.puts(0, marks(1)), marks(0, 1, 6, 10));
        x = oneOf(FORM, marks(0), marks(2), marks(11));
        due(x.puts(0, 4095), marks(1, 2, 3, 4));
        due(x.puts(0, marks(0, 7, 8, 9, 10)), marks(7, 8, 9, 10));
        due(x.puts(0, marks(7, 8, 9, 10, 11)), marks(2, 7, 8, 9));
        due(x.puts(0, marks(5)), marks(5));
        x = oneOf(CLERK, 0, 0, 0);
        due(x.puts(0, 0), marks(0));
        due(x.puts(0, marks(1, 2, 3, 4, 5)), marks(0, 1, 2, 3, 4));
        due(x.puts(0, 4095), marks(0, 1, 2, 3));
        x = oneOf(TERSE, marks(1), marks(3), marks(1));
        due(x.puts(0, marks(1, 5, 6)), marks(3, 5));
        due(x.puts(0, marks(6)), marks(6));
        due(x.puts(0, marks(4, 8, 9)), marks(4, 8));
        x = oneOf(DEAF, marks(2), marks(1), marks(4, 5));
        due(x.puts(0, 4095), marks(0, 1, 4, 6, 8, 10));
        due(x.puts(0, marks(5, 7)), 0);
        due(x.puts(0, marks(4)), marks(1, 4));
        all(BEYOND, x.puts(0, 4096), x.puts(0, -1), x.puts(1, 0), x.puts(-1, 0));
    }

    private static void says() {
        promise(11);
        ScribeTables x = couple();
        due(x.says(0), 2);
        x.change(0, BELIEFS, 12);
        due(x.says(0), 14);
        due(x.says(1), 0);
        all(BEYOND, x.says(2), x.says(-1));
    }

    private static void read() {
        promise(12);
        ScribeTables x = with("writer adds 9 when 1;soft;person by 0;person by 1 pence 0;person by 0");
        due(x.read(0, 1, marks(1)), marks(1, 5));
        due(x.read(1, 0, marks(1, 9)), marks(1, 5, 9));
        x.change(1, LETTERED, 1);
        due(x.read(0, 1, marks(1)), marks(1, 9));
        due(x.read(1, 0, marks(10)), marks(10));
        x.change(0, LETTERED, 1);
        due(x.read(0, 1, marks(1)), marks(1));
        due(x.of(1, BELIEFS), 0);
        due(x.now(1), 0);
        due(x.of(0, PENCE), 100);
        all(BEYOND, x.read(0, 0, 0), x.read(0, 3, 0), x.read(3, 0, 0), x.read(-1, 0, 0), x.read(0, 1, 4096), x.read(0, 1, -1));
    }

    private static void send() {
        promise(13);
        ScribeTables x = with("writer adds 9 when 1 price 7;soft price 30;person by 0;person by 1;person by 1");
        due(x.send(0, 1, marks(1)), marks(1, 5));
        due(x.of(1, BELIEFS), marks(1, 5));
        due(x.of(0, BELIEFS), 0);
        due(x.of(0, PENCE), 93);
        due(x.of(1, PENCE), 70);
        due(x.writerOf(0, PURSE), 7);
        due(x.writerOf(1, PURSE), 30);
        due(x.now(1), 1);
        due(x.send(0, 1, marks(3)), marks(3));
        due(x.of(1, BELIEFS), marks(1, 3, 5));
        due(x.send(1, 0, 0), 0);
        due(x.of(1, PENCE), 10);
        // the one who gets it hasn't enough; then the one who sends it
        due(x.send(0, 1, marks(7)), STATE);
        due(x.send(1, 0, marks(7)), STATE);
        due(x.of(0, PENCE), 79);
        due(x.of(1, BELIEFS), marks(1, 3, 5));
        due(x.now(1), 3);
        x.change(1, LETTERED, 1);
        due(x.send(0, 1, marks(1)), marks(1, 9));
        due(x.of(1, PENCE), 10);
        due(x.of(0, PENCE), 72);
        x.change(0, PENCE, 7);
        due(x.send(0, 1, 0), 0);
        due(x.of(0, PENCE), 0);
        due(x.send(0, 1, 0), STATE);
        all(BEYOND, x.send(0, 0, 0), x.send(0, 3, 0), x.send(3, 0, 0), x.send(-1, 0, 0), x.send(0, 1, 4096), x.send(0, 1, -1));
        due(x.now(5), 7 * 5 + 30 * 3 + 0 + 10 + 100);
    }

    private static void years() {
        promise(14);
        ScribeTables x = couple();
        all(BEYOND, x.years(0), x.years(31), x.years(-1));
        due(x.years(1), 2);
        due(x.of(0, BELIEFS), 2);
        due(x.of(1, BELIEFS), 2);
        due(x.of(0, PENCE), 92);
        // 100 pence are 25 letters
        due(x.years(30), 23);
        due(x.now(0), 31);
        due(x.now(1), 25);
        due(x.writerOf(0, PURSE), 200);
        inYear(x, 989);
        due(x.years(11), STATE);
        due(x.years(10), 0);
        due(x.now(0), 999);
        due(x.years(1), STATE);
        due(x.years(31), BEYOND);
        // 2 hears of 0 in the same year, as TIE 0 1 comes before 1 2; 0 hears of 2 a year later
        x = with("writer;person by 0 truth 0;person by 0;person by 0 truth 2;tie 1 2;tie 0 1");
        due(x.years(1), 4);
        due(x.of(0, BELIEFS), marks(0));
        due(x.of(1, BELIEFS), marks(0, 2));
        due(x.of(2, BELIEFS), marks(0));
        due(x.years(1), 4);
        due(x.of(0, BELIEFS), marks(0, 2));
    }

    private static void now() {
        promise(15);
        ScribeTables x = with("writer price 9;person by 0 truth 1 4;person by 0 truth 2 pence 30;person by 0;tie 0 1;tie 1 2");
        x.change(2, BELIEFS, marks(7));
        due(x.now(2), 2);
        due(x.now(3), marks(1, 2, 4));
        due(x.now(4), marks(7));
        due(x.now(5), 230);
        x.years(1);
        due(x.now(0), 1);
        due(x.now(1), 3);
        due(x.now(4), marks(1, 2, 4, 7));
        due(x.now(5), 230);
        due(x.of(1, PENCE), 3);
        all(BEYOND, x.now(6), x.now(-1));
    }

    private static void who() {
        promise(16);
        ScribeTables x = with("writer;person by 0 truth 3;person by 0;person by 0");
        x.change(1, BELIEFS, marks(3, 11));
        x.change(2, BELIEFS, marks(0, 11));
        due(x.who(3), 2);
        due(x.who(11), 6);
        due(x.who(0), 4);
        due(x.who(1), 0);
        all(BEYOND, x.who(12), x.who(-1));
    }

    private static void ahead() {
        promise(17);
        ScribeTables x = couple();
        due(x.ahead(0, 0), 0);
        due(x.ahead(12, 0), 24);
        due(x.ahead(13, 0), 25);
        due(x.ahead(60, 0), 25);
        due(x.ahead(12, 1), 0);
        due(x.ahead(13, 1), 3);
        due(x.ahead(0, 2), 0);
        due(x.ahead(1, 2), 2);
        due(x.ahead(0, 4), 0);
        due(x.ahead(1, 3), 2);
        due(x.ahead(1, 4), 2);
        all(BEYOND, x.ahead(-1, 0), x.ahead(61, 0), x.ahead(0, -1), x.ahead(0, 5), x.ahead(0, Integer.MAX_VALUE));
        due(x.now(0), 0);
        due(x.now(1), 0);
        due(x.of(0, PENCE), 100);
        due(x.of(1, BELIEFS), 0);
        x.change(0, LETTERED, 1);
        x.change(0, PENCE, 0);
        due(x.ahead(13, 1), 2);
        x.years(3);
        due(x.ahead(2, 0), 4);
        due(new ScribeTables().ahead(5, 2), 0);
        x.change(0, BELIEFS, marks(0, 1));
        x.change(1, BELIEFS, marks(0, 2, 11));
        due(x.ahead(0, 2), marks(0));
        x.change(0, BELIEFS, 0);
        due(x.ahead(0, 2), 0);
        inYear(x, 998);
        due(x.ahead(1, 0), 0);
        due(x.ahead(2, 0), STATE);
        due(x.ahead(61, 0), BEYOND);
        inYear(x, 999);
        due(x.ahead(0, 1), 2);
        due(x.ahead(1, 0), STATE);
    }

    private static void when() {
        promise(18);
        // against the order of numbers a MARK goes one person a year
        ScribeTables x = with("writer price 0;person by 0;person by 0;person by 0;person by 0 truth 6;tie 0 1;tie 1 2;tie 2 3");
        due(x.when(2, 6), 1);
        due(x.when(1, 6), 2);
        due(x.when(0, 6), 3);
        due(x.when(3, 6), 2);
        due(x.when(0, 5), NONE);
        x.change(0, BELIEFS, marks(5));
        due(x.when(0, 5), 0);
        due(x.now(0), 0);
        all(BEYOND, x.when(4, 0), x.when(-1, 0), x.when(0, 12), x.when(0, -1));
        inYear(x, 939);
        due(x.when(0, 6), 0);
        due(x.when(0, 8), NONE);
        x.years(1);
        due(x.when(0, 6), STATE);
        due(x.when(0, 12), BEYOND);
    }

    private static void without() {
        promise(19);
        ScribeTables x = with("writer adds 5 when 1;writer adds 6 when 5;person by 0 truth 1;person by 1;tie 0 1");
        due(x.ahead(1, 3), marks(1, 5, 6));
        due(x.ahead(1, 4), marks(1, 5, 6));
        due(x.without(0, 5, 1), 0);
        due(x.without(0, 6, 1), 0);
        due(x.without(1, 5, 1), 3);
        due(x.without(1, 6, 1), 0);
        due(x.without(1, 1, 0), 0);
        due(x.without(0, 0, 1), 0);
        due(x.writerOf(0, ADDS), marks(5));
        all(BEYOND, x.without(2, 0, 0), x.without(-1, 0, 0), x.without(0, 12, 0), x.without(0, -1, 0), x.without(0, 0, 61), x.without(0, 0, -1));
        inYear(x, 999);
        due(x.without(1, 6, 0), 3);
        due(x.without(0, 6, 1), STATE);
        due(x.without(0, 12, 1), BEYOND);
    }

    private static void added() {
        promise(20);
        ScribeTables x = with("writer adds 5 when 1;writer adds 6 when 5;poet adds 7;person by 0 truth 1;person by 1;tie 0 1");
        due(x.added(5, 1), 1);
        due(x.added(6, 1), 3);
        due(x.added(7, 1), 0);
        due(x.added(1, 1), 0);
        due(x.added(6, 0), 0);
        due(x.writerOf(1, ADDS), marks(6));
        all(BEYOND, x.added(12, 0), x.added(-1, 0), x.added(0, 61), x.added(0, -1));
        inYear(x, 999);
        due(x.added(5, 0), 0);
        due(x.added(5, 1), STATE);
        due(x.added(5, 61), BEYOND);
    }

    private static void best() {
        promise(21);
        ScribeTables x = with("writer cuts 1;writer;terse;person by 0 truth 1 2;person by 1;person by 0;tie 0 1");
        x.change(1, LETTERED, 1);
        due(x.best(0, 1, 1), 1);
        due(x.best(0, 1, 0), 0);
        due(x.best(0, 2, 5), 0);
        due(x.best(1, 0, 1), 0);
        x.law(1, PRICE, 99);
        x.law(1, CUTS, 2);
        due(x.best(0, 1, 1), 2);
        x.law(0, CUTS, 0);
        due(x.best(0, 1, 1), 0);
        due(x.of(0, WRITER), 0);
        all(BEYOND, x.best(0, 0, 0), x.best(3, 0, 0), x.best(0, 3, 0), x.best(-1, 0, 0), x.best(0, 1, 61), x.best(0, 1, -1));
        inYear(x, 999);
        due(x.best(0, 1, 0), 0);
        due(x.best(0, 1, 1), STATE);
        due(x.best(0, 0, 1), BEYOND);
    }

    private static void bridge() {
        promise(22);
        ScribeTables x = with("writer price 0;person by 0;person by 0;person by 0;person by 0 truth 3;tie 1 2");
        due(x.bridge(3, 0), 1);
        due(x.bridge(3, 3), 13);
        due(x.bridge(4, 3), 1);
        x.tie(1, 3, true);
        x.tie(0, 1, true);
        due(x.bridge(3, 0), 2);
        due(x.now(2), 3);
        all(BEYOND, x.bridge(12, 0), x.bridge(-1, 0), x.bridge(0, 61), x.bridge(0, -1));
        x.tie(0, 2, true);
        x.tie(0, 3, true);
        due(x.bridge(0, 0), 23);
        x.tie(2, 3, true);
        due(x.bridge(0, 0), NONE);
        inYear(x, 999);
        due(x.bridge(0, 0), NONE);
        due(x.bridge(0, 1), STATE);
        due(x.bridge(12, 1), BEYOND);
        due(with("writer;person by 0").bridge(0, 0), NONE);
    }

    private static void many() {
        promise(23);
        ScribeTables x = with("writer cuts 0 1 2;form;clerk");
        due(x.many(0, 0), 8);
        due(x.many(0, marks(3)), 8);
        due(x.many(0, marks(0)), 0);
        due(x.many(1, marks(0, 1, 2, 3)), 256);
        due(x.many(1, marks(11)), 1);
        due(x.many(2, 0), 0);
        due(x.many(2, 1), 2);
        all(BEYOND, x.many(3, 0), x.many(-1, 0), x.many(0, 4096), x.many(0, -1));
    }

    private static void said() {
        promise(24);
        ScribeTables x = with("writer cuts 0 3;writer adds 5 when 4");
        due(x.said(0, marks(6), 0), marks(6));
        due(x.said(0, marks(6), 1), marks(6));
        due(x.said(0, marks(6), 2), marks(0, 3, 6));
        due(x.said(1, marks(4, 5), 0), marks(4));
        due(x.said(1, marks(4, 5), 1), marks(4));
        due(x.said(1, marks(4, 5), 2), marks(4, 5));
        due(x.said(0, 0, 0), 0);
        due(x.said(0, 0, 1), 0);
        due(x.said(1, 0, 2), 0);
        due(x.said(1, marks(0, 11), 1), marks(0, 11));
        all(NONE, x.said(0, marks(3), 0), x.said(0, marks(3), 1), x.said(1, marks(4), 2));
        all(BEYOND, x.said(2, 0, 0), x.said(-1, 0, 0), x.said(0, 4096, 0), x.said(0, -1, 0), x.said(0, 0, 3), x.said(0, 0, -1), x.said(0, marks(3), 3));
    }

    private static void hands() {
        promise(25);
        ScribeTables x = with("writer cuts 3;soft;clerk;terse");
        due(x.hands(0), 11);
        due(x.hands(marks(0)), 15);
        due(x.hands(marks(3)), 10);
        due(x.hands(marks(0, 8)), 13);
        due(x.hands(marks(0, 3, 8)), 4);
        all(BEYOND, x.hands(4096), x.hands(-1));
        due(new ScribeTables().hands(0), 0);
    }

    private static void likeliest() {
        promise(26);
        ScribeTables x = with("writer cuts 3;writer cuts 4 5;writer cuts 6 7");
        due(x.likeliest(0), 1);
        due(x.likeliest(marks(6)), 1);
        due(x.likeliest(marks(4)), 2);
        due(x.likeliest(marks(4, 6)), 0);
        due(x.likeliest(marks(3, 4, 6)), NONE);
        due(with("soft;form").likeliest(marks(11)), 1);
        due(with("writer adds 5 when 0 1 2 3 4 5 6 7 8 9 10 11").likeliest(0), 0);
        all(BEYOND, x.likeliest(4096), x.likeliest(-1));
        due(new ScribeTables().likeliest(0), NONE);
    }

    private static void near() {
        promise(27);
        ScribeTables x = with("writer cuts 0 1;clerk");
        due(x.near(0, marks(0, 5), marks(5)), 0);
        due(x.near(0, marks(0, 5), marks(5, 6)), 1);
        due(x.near(0, 4095, 0), 10);
        due(x.near(0, 0, 0), 0);
        due(with("writer").near(0, 0, 4095), 12);
        due(x.near(0, 0, 4092), 10);
        due(x.near(0, 0, marks(0)), NONE);
        due(x.near(1, marks(5), 0), NONE);
        due(x.near(1, marks(5), marks(0, 4)), 2);
        all(BEYOND, x.near(2, 0, 0), x.near(-1, 0, 0), x.near(0, 4096, 0), x.near(0, -1, 0), x.near(0, 0, 4096), x.near(0, 0, -1));
    }

    private static void honest() {
        promise(28);
        ScribeTables x = with("writer;writer cuts 0 1;soft;deaf;terse;clerk");
        due(x.honest(0), 4096);
        due(x.honest(1), 1024);
        due(x.honest(2), 256);
        due(x.honest(3), 64);
        due(x.honest(4), 1 + 12 + 66);
        // MARK 0 and at most 3 others
        due(x.honest(5), 1 + 11 + 55 + 165);
        all(BEYOND, x.honest(6), x.honest(-1));
    }

    private static void round() {
        promise(29);
        // each time one more MARK: 1, then 2, and so on
        ScribeTables x = with("writer adds 2 when 1;writer adds 1 when 0");
        due(x.round(marks(0), 0), marks(0));
        due(x.round(marks(0), 1), marks(0, 1));
        due(x.round(marks(0), 2), marks(0, 1, 2));
        due(x.round(marks(0), 20), marks(0, 1, 2));
        due(x.round(marks(5), 3), marks(5));
        all(BEYOND, x.round(4096, 0), x.round(-1, 0), x.round(0, 21), x.round(0, -1));
        due(new ScribeTables().round(77, 20), 77);
    }

    private static void settles() {
        promise(30);
        ScribeTables x = with("writer adds 2 when 1;writer adds 1 when 0");
        due(x.settles(marks(0)), 3);
        due(x.settles(marks(0, 1)), 2);
        due(x.settles(marks(5)), 1);
        // 0 goes to 1, 1 to 0: back where it began behind two rounds
        x = with("writer cuts 0 adds 2 when 0;writer cuts 1 adds 0 when 1;writer cuts 2 adds 1 when 2");
        due(x.round(marks(0), 1), marks(1));
        due(x.round(marks(1), 1), marks(0));
        due(x.settles(marks(0)), 2);
        all(BEYOND, x.settles(4096), x.settles(-1));
        due(new ScribeTables().settles(3), 1);
    }

    private static void court() {
        promise(31);
        ScribeTables x = with("writer cuts 1 2 adds 9 when 0;soft;poet adds 3 4");
        due(x.court(0, 0, marks(5)), 0);
        due(x.court(0, 0, marks(0, 1, 2)), 102);
        due(x.court(0, 1, marks(0, 1)), 101);
        due(x.court(1, 0, marks(9)), 101);
        due(x.court(2, 2, 0), 200);
        due(x.court(0, 2, marks(0, 1, 2)), 302);
        all(BEYOND, x.court(3, 0, 0), x.court(0, 3, 0), x.court(-1, 0, 0), x.court(0, -1, 0), x.court(0, 0, 4096), x.court(0, 0, -1));
    }

    private static void witness() {
        promise(32);
        // of two readers who do as well as another the one of the lesser number counts
        ScribeTables x = with("soft;writer cuts 3;poet adds 3;writer");
        due(x.witness(1), 1);
        due(x.witness(3), 3);
        due(x.witness(0), 0);
        x = with("soft;clerk;writer cuts 0;form;terse");
        due(x.witness(0), 0);
        // 2 takes MARK 0 away again that the clerk put: right for 562 SAYINGS, the clerk itself for 232
        due(x.witness(1), 2);
        due(x.witness(2), 2);
        all(BEYOND, x.witness(5), x.witness(-1));
    }

    private static void price() {
        promise(33);
        ScribeTables x = couple();
        due(x.price(0, 1), 50);
        due(x.price(0, 2), 25);
        due(x.price(0, 20), 4);
        due(x.writerOf(0, PRICE), 4);
        due(x.of(0, PENCE), 100);
        x.change(0, PENCE, 99999);
        x.change(1, PENCE, 99999);
        due(x.price(0, 1), 99);
        x.tie(0, 1, false);
        due(x.price(0, 1), 0);
        all(BEYOND, x.price(1, 1), x.price(-1, 1), x.price(0, 0), x.price(0, 21));
        inYear(x, 998);
        due(x.price(0, 1), 0);
        due(x.price(0, 2), STATE);
        due(x.price(0, 21), BEYOND);
    }

    private static void school() {
        promise(34);
        ScribeTables x = with("writer;person by 0;person by 0;person by 0;tie 0 1;tie 1 2");
        due(x.school(2), 4);
        due(x.school(3), 2);
        due(x.school(8), 2);
        x.law(0, PRICE, 0);
        due(x.school(2), 4);
        due(x.of(0, LETTERED), 0);
        due(x.now(0), 0);
        x.change(0, LETTERED, 1);
        due(x.school(2), 2);
        due(x.school(3), 0);
        // who hasn't the price may get letters once lettered, and the other one pays for those
        x = couple();
        x.change(0, PENCE, 3);
        due(x.school(2), -2);
        all(BEYOND, x.school(1), x.school(9), x.school(0), x.school(-2));
        inYear(x, 998);
        due(x.school(2), -2);
        x.years(1);
        due(x.school(2), STATE);
        due(x.school(9), BEYOND);
    }

    private static void gossip() {
        promise(35);
        ScribeTables x = couple();
        due(x.gossip(1), marks(8));
        due(x.of(0, BELIEFS), marks(8));
        due(x.count(6), -1770082073);
        due(x.gossip(2), marks(0, 8, 11));
        due(x.of(0, BELIEFS), marks(8, 11));
        due(x.of(1, BELIEFS), marks(0));
        due(x.now(1), 0);
        x = couple();
        due(x.gossip(3), marks(0, 8, 11));
        x = couple();
        x.seed(-7);
        due(x.gossip(2), marks(5, 10));
        due(x.of(1, BELIEFS), marks(5));
        due(x.of(0, BELIEFS), marks(10));
        due(x.gossip(12) < 0 ? 1 : 0, 0);
        all(BEYOND, x.gossip(0), x.gossip(13));
        due(with("writer;person by 0").gossip(1), marks(8));
        x = new ScribeTables();
        due(x.gossip(1), STATE);
        due(x.gossip(13), BEYOND);
        due(x.count(6), 1);
    }

    private static void seed() {
        promise(36);
        ScribeTables x = new ScribeTables();
        due(x.seed(BEYOND), 1);
        due(x.count(6), BEYOND);
        due(x.seed(Integer.MIN_VALUE), BEYOND);
        due(x.seed(0), Integer.MIN_VALUE);
        due(x.status(-1), 0);
    }

    private static void feed() {
        promise(37);
        ScribeTables x = new ScribeTables();
        all(BEYOND, x.feed(0, 0), x.feed(0, 5), x.feed(0, -1));
        // "tie" with an 'x' above it that isn't taken
        due(x.feed('x' << 24 | 't' << 16 | 'i' << 8 | 'e', 3), 3);
        due(x.text(), -4);
        for (int i = 1; i <= 29; i++) due(x.feed(0x20202020, 4), 4 * i);
        due(x.feed(0x2020, 2), 118);
        all(FULL, x.feed(0x20202020, 4), x.feed(0x202020, 3));
        due(x.feed(0x2020, 2), 120);
        due(x.feed(0x20, 1), FULL);
        due(x.feed(0x20, 5), BEYOND);
        due(x.count(5), 120);
        due(x.text(), -121);
        // bytes above 127 are bytes, too
        due(x.feed(-1, 1), 1);
        due(x.text(), -1);
        due(x.count(5), 0);
    }

    private static void wipe() {
        promise(38);
        ScribeTables x = new ScribeTables();
        due(x.wipe(), 0);
        x.feed(0x20202020, 3);
        due(x.wipe(), 3);
        due(x.count(5), 0);
        due(x.wipe(), 0);
    }

    private static void texts() {
        promise(39);
        ScribeTables x = new ScribeTables();
        due(text(x, " writer  cuts 0 11 0 adds 1 when 2 3 price 99 ; soft;form;poet price0;clerk cuts4;deaf  "), 6);
        int[][] rows = {{PLAIN, marks(0, 11), marks(1), marks(2, 3), 99, 0}, {SOFT, 0, 0, 0, 4, 0}, {FORM, 0, 0, 0, 4, 0},
            {POET, 0, 0, 0, 0, 0}, {CLERK, marks(4), 0, 0, 4, 0}, {DEAF, 0, 0, 0, 4, 0}};
        for (int w = 0; w < 6; w++) for (int i = 0; i < 6; i++) due(x.writerOf(w, i), rows[w][i]);
        due(x.count(5), 0);
        due(text(x, "person by 0;  terse"), -15);
        due(x.count(1), 0);
        due(text(x, "person by 5 truth 1 10 pence 99999;person by0;tie 1 0"), 3);
        int[] first = {marks(1, 10), 0, 5, 99999, 0};
        for (int i = 0; i < 5; i++) due(x.of(0, i), first[i]);
        due(x.of(1, PENCE), 100);
        due(x.ties(0), 2);
        due(text(x, "person by 000003 pence 0000000000000000000000000000012"), 1);
        due(x.of(2, PENCE), 12);
        due(x.of(2, WRITER), 3);
        due(x.status(-1), 0);
        textsWithFaults();
        x = with("terse");
        due(x.writerOf(0, 0), TERSE);
        StringBuilder nine = new StringBuilder();
        for (int i = 0; i < 9; i++) nine.append(i == 0 ? "" : ";").append("person by 0");
        due(text(x, nine.toString()), -1 - 8 * 12);
        due(x.count(1), 0);
        due(text(x, nine.substring(0, 8 * 12 - 1)), 8);
        due(x.count(1), 8);
    }

    private static void textsWithFaults() {
        String[] texts = {"", "   ", ";", "writer;", "writer ; ", "writer;;writer", "writers", "Writer", "wri ter", "writerz", "vriter", "writeR", "writer{", "writer 1:", "writer soft",
            "writer 3", "writer cuts", "writer cuts ", "writer cuts x", "writer cuts;", "writer cuts 3 12", "writer cuts 3 4294967296",
            "writer cuts 3 cuts 4", "writer adds 1 cuts 2", "writer when 1 adds 2", "writer price 1 when 2", "writer price",
            "writer price 100", "writer price 1 2", "writer price 3 price 4", "writer\tprice 3", "writer!", "writer-1", "person",
            "person by", "person by 0", "writer;person", "writer;person by", "writer;person by x", "writer;person by 1",
            "writer;person by 0 pence 100000", "writer;person by 0 pence 4294967297", "writer;person by 0 pence 1 truth 1",
            "writer;person by 0 truth", "writer;person by 0 pence", "writer;person by 0 0", "person by 0;writer",
            "writer;person by 0;person by 0;tie 0 1 1", "writer;person by 0;person by 0;tie 0 2", "writer;person by 0;person by 0;tie 2 0",
            "writer;person by 0;person by 0;tie 1 1", "writer;person by 0;person by 0;tie;", "tie", "tie 0",
            "writer;soft;form;poet;clerk;deaf;terse cuts 99"};
        int[] faults = {0, 3, 0, 7, 9, 7, 0, 0, 0, 0, 0, 0, 6, 7, 7,
            7, 11, 12, 12, 11, 14, 14,
            14, 14, 14, 15, 12,
            13, 15, 15, 6, 6, 6, 6,
            9, 10, 13, 16, 17, 17,
            25, 25, 27,
            24, 24, 19, 10,
            39, 37, 35,
            37, 34, 3, 4,
            33};
        due(texts.length, faults.length);
        for (int i = 0; i < texts.length; i++) {
            ScribeTables x = new ScribeTables();
            int got = text(x, texts[i]);
            due(got, -1 - faults[i]);
            if (got != -1 - faults[i]) System.out.println("  text: " + texts[i]);
            all(0, x.count(0), x.count(1), x.count(5), x.status(-1));
        }
    }

    private static void hold() {
        promise(40);
        ScribeTables x = with("writer;soft");
        due(x.hold(0, 0), 1);
        due(x.hold(9, 1), 1);
        due(x.count(7), 2);
        due(x.hold(0, 1), 1);
        due(x.as(0, PLAIN), 1);
        due(x.hold(0, -1), 1);
        due(x.hold(5, -1), 1);
        due(x.count(7), 1);
        due(x.as(0, PLAIN), MISSING);
        all(BEYOND, x.hold(10, 0), x.hold(-1, 0), x.hold(9, 2), x.hold(9, -2), x.hold(10, -1));
        due(x.as(9, PLAIN), 1);
    }

    private static void as() {
        promise(41);
        String[] over = {"0", "01", "02", "013", "024", "05", "026"};
        for (int kind = 0; kind < 7; kind++) {
            ScribeTables x = new ScribeTables();
            x.writer(0);
            x.writer(kind);
            x.hold(3, 1);
            for (int wanted = 0; wanted < 7; wanted++) due(x.as(3, wanted), over[kind].indexOf('0' + wanted) >= 0 ? 1 : KIND);
        }
        ScribeTables x = with("writer");
        x.hold(0, 0);
        all(BEYOND, x.as(-1, 0), x.as(10, 0), x.as(0, 7), x.as(0, -1), x.as(1, 7));
        due(x.as(1, 0), MISSING);
        due(x.as(0, TERSE), KIND);
        x.law(0, 0, TERSE);
        due(x.as(0, FORM), 0);
    }

    private static void sheet() {
        promise(42);
        ScribeTables x = new ScribeTables();
        due(x.sheet(0, 8, 40), 40);
        due(x.sheet(3, 32, 0), 0);
        due(x.sheet(1, 16, 2), 2);
        due(x.write(1, 1, 5), 1);
        due(x.write(1, 2, 5), BEYOND);
        due(x.write(3, 0, 5), BEYOND);
        // laid anew, all are 0
        x.writer(0);
        x.person(0);
        x.person(0);
        x.write(1, 0, 9);
        x.sheet(1, 32, 3);
        x.change(0, TRUTH, 1);
        due(x.load(1), 2);
        due(x.of(0, TRUTH), 0);
        due(x.sheet(1, 0, 7), 0);
        due(x.write(1, 0, 0), MISSING);
        all(BEYOND, x.sheet(-1, 8, 1), x.sheet(4, 8, 1), x.sheet(0, 7, 1), x.sheet(0, -8, 1), x.sheet(0, 64, 1), x.sheet(4, 8, -1), x.sheet(0, 9, -1));
        all(SIZE, x.sheet(0, 8, -1), x.sheet(0, 0, -1), x.sheet(0, 32, Integer.MIN_VALUE));
        all(BEYOND, x.sheet(0, 8, 41), x.sheet(0, 0, 41), x.sheet(0, 16, Integer.MAX_VALUE));
        due(x.write(0, 39, 1), 1);
    }

    private static void write() {
        promise(43);
        ScribeTables x = with("writer;person by 0");
        int[] widths = {8, 16, 32};
        int[][] rows = {{300, 44}, {65536 + 300, 300}, {4095, 4095}};
        for (int s = 0; s < 3; s++) {
            x.sheet(s, widths[s], 1);
            due(x.write(s, 0, rows[s][0]), 1);
            due(x.load(s), 1);
            due(x.of(0, TRUTH), rows[s][1]);
        }
        // the sign: 255 of 8 bits is -1, which is no SAYING
        x.write(0, 0, 255);
        due(x.load(0), 0);
        x.write(0, 0, -1 << 8 | 127);
        due(x.load(0), 1);
        due(x.of(0, TRUTH), 127);
        x.write(1, 0, 65535);
        due(x.load(1), 0);
        x.write(2, 0, 65536 + 5);
        due(x.load(2), 0);
        all(BEYOND, x.write(4, 0, 0), x.write(-1, 0, 0), x.write(0, 1, 0), x.write(0, -1, 0));
        all(MISSING, x.write(3, 0, 0), x.write(3, -1, 0));
    }

    private static ScribeTables eight() {
        ScribeTables x = with("writer");
        for (int i = 0; i < 8; i++) x.person(0);
        return x;
    }

    private static void truths(ScribeTables x, int s, int... want) {
        for (int i = 0; i < 8; i++) x.change(i, TRUTH, 4000);
        due(x.load(s), want.length);
        for (int i = 0; i < want.length; i++) due(x.of(i, TRUTH), want[i]);
    }

    private static void copy() {
        promise(44);
        ScribeTables x = eight();
        x.sheet(0, 16, 6);
        x.sheet(1, 16, 4);
        x.sheet(2, 8, 6);
        for (int i = 0; i < 6; i++) x.write(0, i, i + 1);
        due(x.copy(0, 0, 0, 2, 4), 4);
        truths(x, 0, 1, 2, 1, 2, 3, 4);
        due(x.copy(0, 2, 0, 1, 4), 4);
        truths(x, 0, 1, 1, 2, 3, 4, 4);
        due(x.copy(0, 2, 1, 1, 3), 3);
        truths(x, 1, 0, 2, 3, 4);
        all(0, x.copy(0, 6, 1, 4, 0), x.copy(0, 0, 1, 0, 0));
        due(x.copy(1, 0, 0, 2, 4), 4);
        truths(x, 0, 1, 1, 0, 2, 3, 4);
        due(x.copy(0, 0, 0, 0, 6), 6);
        all(BEYOND, x.copy(4, 0, 0, 0, 1), x.copy(0, 0, 4, 0, 1), x.copy(-1, 0, 0, 0, 1), x.copy(0, 0, -1, 0, 1), x.copy(3, 0, 4, 0, 1));
        all(MISSING, x.copy(3, 0, 0, 0, 1), x.copy(0, 0, 3, 0, 1), x.copy(2, 0, 3, -1, 1));
        all(KIND, x.copy(0, 0, 2, 0, 1), x.copy(2, 0, 0, -1, -1));
        all(BEYOND, x.copy(0, -1, 1, 0, 1), x.copy(0, 0, 1, -1, 1), x.copy(0, 0, 1, 0, -1), x.copy(0, 0, 1, 0, 5), x.copy(0, 3, 1, 0, 4),
            x.copy(0, 0, 1, 2, 3), x.copy(0, 7, 1, 0, 0), x.copy(0, 0, 1, 5, 0), x.copy(0, Integer.MAX_VALUE, 1, 0, 1),
            x.copy(0, 1, 1, 1, Integer.MAX_VALUE), x.copy(0, 1, 1, Integer.MAX_VALUE, 1));
        truths(x, 1, 0, 2, 3, 4);
    }

    private static void load() {
        promise(45);
        ScribeTables x = eight();
        x.sheet(0, 16, 10);
        for (int i = 0; i < 10; i++) x.write(0, i, 4095 - i);
        due(x.load(0), 8);
        due(x.of(0, TRUTH), 4095);
        due(x.of(7, TRUTH), 4088);
        x.write(0, 0, 7);
        x.write(0, 2, 4096);
        due(x.load(0), 2);
        due(x.of(0, TRUTH), 7);
        due(x.of(2, TRUTH), 4093);
        x.write(0, 1, -1);
        due(x.load(0), 1);
        x.sheet(1, 8, 0);
        due(x.load(1), 0);
        all(BEYOND, x.load(4), x.load(-1));
        due(x.load(2), MISSING);
        ScribeTables nobody = new ScribeTables();
        nobody.sheet(0, 8, 3);
        due(nobody.load(0), 0);
    }

    private static void judge() {
        promise(46);
        ScribeTables x = with("writer cuts 3;clerk");
        x.sheet(0, 16, 3);
        due(x.judge(0, 0), 0);
        due(x.judge(0, 1), 1);
        x.write(0, 0, marks(0, 4));
        x.write(0, 1, marks(0, 11));
        x.write(0, 2, marks(0, 3));
        due(x.judge(0, 0), 3);
        due(x.judge(0, 1), 0);
        x.write(0, 1, 4096);
        due(x.judge(0, 0), 2);
        x.write(0, 1, -1);
        due(x.judge(0, 1), 2);
        // all that one who leaves two MARKS at most can have written, and one number more
        text(x, "terse");
        x.sheet(2, 32, 14);
        for (int i = 0; i < 12; i++) x.write(2, i, marks(i, 11));
        due(x.judge(2, 2), 0);
        x.write(2, 12, marks(3, 6));
        x.write(2, 13, marks(3, 6, 7));
        due(x.judge(2, 2), 14);
        x.sheet(2, 0, 0);
        x.sheet(1, 8, 0);
        due(x.judge(1, 1), 0);
        all(BEYOND, x.judge(4, 0), x.judge(-1, 0), x.judge(0, 3), x.judge(0, -1));
        all(MISSING, x.judge(2, 0), x.judge(2, 9));
        ScribeTables terse = with("terse");
        terse.sheet(0, 16, 1);
        for (int v = 0; v < 4096; v += 23) {
            terse.write(0, 0, v);
            due(terse.judge(0, 0), Integer.bitCount(v) <= 2 ? 0 : 1);
        }
    }

    private static void image() {
        promise(47);
        ScribeTables x = couple();
        x.hold(4, 0);
        x.seed(77);
        x.years(2);
        x.sheet(0, 8, 2);
        x.feed(0x20, 1);
        due(x.image(), 1);
        x.writer(3);
        x.law(0, PRICE, 9);
        x.law(0, CUTS, 5);
        x.person(1);
        x.change(0, TRUTH, 9);
        x.change(1, LETTERED, 1);
        x.tie(0, 1, false);
        x.tie(0, 2, true);
        x.hold(4, 1);
        x.hold(5, 1);
        x.seed(78);
        x.years(3);
        x.sheet(0, 16, 3);
        x.feed(0x20, 1);
        due(x.undo(), 2);
        int[] counts = {1, 2, 0, 32, 0, 2, 77, 1};
        for (int i = 0; i < 8; i++) due(x.count(i), counts[i]);
        int[] nows = {2, 4, 1, 2, 2, 200};
        for (int i = 0; i < 6; i++) due(x.now(i), nows[i]);
        int[] writers = {PLAIN, 0, 0, 0, 4, 32};
        for (int i = 0; i < 6; i++) due(x.writerOf(0, i), writers[i]);
        int[] person = {0, 2, 0, 84, 0, 0};
        for (int i = 0; i < 6; i++) due(x.of(1, i), person[i]);
        due(x.ties(0), 2);
        due(x.as(4, PLAIN), 0);
        due(x.as(5, PLAIN), MISSING);
        due(x.write(0, 2, 300), 1);
    }

    /** Who comes after undo() has nothing of those who were there for a while before it. */
    private static void newOnesBehindAnImage() {
        ScribeTables x = with("writer;person by 0");
        x.image();
        text(x, "soft cuts 1 adds 2 when 3 price 7;person by 1 truth 4 pence 50;tie 0 1");
        x.send(0, 1, marks(3));
        x.change(1, LETTERED, 1);
        x.undo();
        due(x.writer(CLERK), 1);
        due(x.person(1), 1);
        int[] writers = {CLERK, 0, 0, 0, 4, 0};
        for (int i = 0; i < 6; i++) due(x.writerOf(1, i), writers[i]);
        int[] person = {0, 0, 1, 100, 0, 0};
        for (int i = 0; i < 6; i++) due(x.of(1, i), person[i]);
        due(x.ties(1), 0);
        due(x.now(1), 0);
    }

    private static void undo() {
        promise(48);
        ScribeTables x = new ScribeTables();
        due(x.undo(), NONE);
        x.image();
        x.writer(0);
        x.years(5);
        x.image();
        x.years(6);
        due(x.undo(), 5);
        x.writer(0);
        due(x.undo(), 5);
        due(x.count(0), 1);
        x.tear();
        due(x.undo(), NONE);
        due(x.count(0), 1);
    }

    private static void tear() {
        promise(49);
        ScribeTables x = new ScribeTables();
        due(x.tear(), 0);
        x.image();
        x.image();
        due(x.tear(), 1);
        due(x.tear(), 0);
        due(x.undo(), NONE);
        x.image();
        due(x.undo(), 0);
        due(x.tear(), 1);
    }

    private static void count() {
        promise(50);
        ScribeTables x = with("writer;soft price 5;person by 0 truth 1;person by 1 truth 2;person by 1;tie 0 1");
        due(x.count(0), 2);
        due(x.count(1), 3);
        x.change(2, LETTERED, 1);
        due(x.count(2), 1);
        x.change(0, LETTERED, 1);
        due(x.count(2), 2);
        x.change(0, LETTERED, 0);
        x.years(1);
        due(x.count(3), 18);
        x.change(0, BELIEFS, marks(1, 5, 6));
        x.change(2, BELIEFS, marks(2, 5));
        due(x.count(4), 3);
        x.feed(0, 3);
        due(x.count(5), 3);
        due(x.count(6), 1);
        x.hold(1, 0);
        x.hold(2, 0);
        due(x.count(7), 2);
        all(BEYOND, x.count(8), x.count(-1));
    }

    private static void status() {
        promise(51);
        ScribeTables x = new ScribeTables();
        x.writer(9);
        x.writer(9);
        for (int i = 0; i < 7; i++) x.writer(0);
        x.hold(0, 0);
        x.as(0, 1);
        x.undo();
        x.tear();
        x.gossip(1);
        x.as(1, 0);
        x.sheet(0, 8, -1);
        int[] want = {2, 1, 1, 1, 1, 1, 1};
        for (int i = 0; i < 7; i++) due(x.status(i), want[i]);
        due(x.status(-1), 8);
        x.image();
        all(BEYOND, x.status(7), x.status(-2), x.status(Integer.MIN_VALUE));
        due(x.status(0), 5);
        due(x.status(-1), 11);
        x.undo();
        due(x.status(-1), 11);
        x.seed(SIZE);
        x.seed(STATE);
        x.count(6);
        text(x, "?");
        due(x.status(-1), 11);
    }

    public static void main(String[] args) {
        newObject(); writer(); writerOf(); law(); person(); of(); change(); tie(); ties();
        puts(); says(); read(); send(); years(); now(); who();
        ahead(); when(); without(); added(); best(); bridge();
        many(); said(); hands(); likeliest(); near(); honest(); round(); settles();
        court(); witness(); price(); school(); gossip(); seed();
        feed(); wipe(); texts();
        hold(); as(); sheet(); write(); copy(); load(); judge();
        image(); newOnesBehindAnImage(); undo(); tear(); count(); status();
        System.out.println(wrong == 0 ? "all answers are as due" : wrong + " answers are not as due");
        if (wrong != 0) System.exit(1);
    }
}
