import java.util.ArrayList;
import java.util.List;

/** The edges of promises 47 to 51 and of what "Terms" says of FINDINGS. */
public final class ImageEdgeTest extends Sentences {
    /** All that an image keeps, but its YEAR, which undo() tells. */
    private static List<Integer> keptOf(ScribeTables x) {
        List<Integer> seen = new ArrayList<>();
        for (int i = 0; i < 8; i++) if (i != 5) seen.add(x.count(i));
        for (int i = 0; i < 6; i++) seen.add(x.now(i));
        for (int w = 0; w < x.count(0); w++) for (int i = 0; i < 6; i++) seen.add(x.writerOf(w, i));
        for (int p = 0; p < x.count(1); p++) for (int i = 0; i < 6; i++) seen.add(x.of(p, i));
        for (int p = 0; p < x.count(1); p++) seen.add(x.ties(p));
        for (int i = 0; i < 10; i++) seen.add(x.as(i, PLAIN));
        return seen;
    }

    private static void same(List<Integer> got, List<Integer> want) {
        due(got.size(), want.size());
        for (int i = 0; i < got.size() && i < want.size(); i++) due(got.get(i), want.get(i));
    }

    private static ScribeTables townWithImage() {
        ScribeTables x = town();
        x.image();
        return x;
    }

    /** Each changes something that an image keeps. */
    private static final Call[] CHANGES = {
        y -> y.writer(3), y -> y.law(0, 0, 4), y -> y.law(0, CUTS, 7), y -> y.law(0, ADDS, 7), y -> y.law(0, WHEN, 7), y -> y.law(2, PRICE, 7), y -> y.person(1),
        y -> y.change(3, TRUTH, 9), y -> y.change(0, BELIEFS, 99), y -> y.change(3, WRITER, 2), y -> y.change(3, PENCE, 9), y -> y.change(0, LETTERED, 1), y -> y.change(3, LETTERED, 0),
        y -> y.tie(0, 3, true), y -> y.tie(0, 1, false), y -> y.send(0, 3, 4095), y -> y.years(1), y -> y.years(30), y -> y.gossip(12), y -> y.seed(1234), y -> y.hold(4, 1), y -> y.hold(9, 0),
        y -> y.hold(0, -1), y -> y.load(0), y -> y.load(2),
        y -> text(wiped(y), "poet cuts 2 adds 3 when 4 price 5;person by 3 truth 5 pence 6;tie 4 0;tie 3 2")};

    private static ScribeTables wiped(ScribeTables x) {
        x.wipe();
        return x;
    }

    private static void image() {
        sentence("47: All but THE TAPE and SHEETS is kept: 1.");
        due(new ScribeTables().image(), 1);
        due(town().image(), 1);
        due(townWithImage().image(), 1);
        List<Integer> want = keptOf(town());
        for (Call change : CHANGES) {
            ScribeTables x = townWithImage();
            change.on(x);
            if (keptOf(x).equals(want)) due(0, 1);
            x = townWithImage();
            change.on(x);
            due(x.undo(), 3);
            same(keptOf(x), want);
        }
        ScribeTables x = townWithImage();
        for (Call change : CHANGES) change.on(x);
        due(x.undo(), 3);
        same(keptOf(x), want);
        sentence("47: an image is one of that moment: it doesn't change with what goes on");
        for (Call change : CHANGES) {
            x = townWithImage();
            x.undo();
            change.on(x);
            due(x.undo(), 3);
            same(keptOf(x), want);
        }
        sentence("47: what goes AHEAD, and a TEXT with a FAULT, don't alter it");
        x = townWithImage();
        x.wipe();
        x.years(5);
        x.ahead(60, 0);
        x.when(0, 11);
        x.without(0, 1, 60);
        x.added(5, 60);
        x.best(0, 1, 60);
        x.bridge(5, 60);
        x.price(0, 20);
        x.school(2);
        text(x, "writer;person by 3 truth 9;tie 0 3;x");
        due(x.undo(), 3);
        same(keptOf(x), want);
        allButTapeAndSheets();
        changesNothing(ImageEdgeTest::townWithImage, y -> y.image(), y -> y.undo());
    }

    private static void allButTapeAndSheets() {
        sentence("47: THE TAPE and SHEETS aren't kept: they stay as they are");
        ScribeTables x = new ScribeTables();
        x.writer(0);
        x.person(0);
        x.sheet(0, 8, 2);
        x.sheet(1, 16, 3);
        x.write(0, 1, 7);
        feed(x, "soft");
        x.image();
        x.sheet(0, 16, 3);
        x.write(0, 0, 999);
        x.sheet(1, 0, 0);
        x.sheet(2, 32, 1);
        feed(x, ";form");
        due(x.undo(), 0);
        due(x.count(5), 9);
        due(x.load(0), 1);
        due(x.of(0, TRUTH), 999);
        due(x.write(0, 2, 300), 1);
        due(x.load(1), MISSING);
        due(x.write(2, 0, 1), 1);
        due(x.text(), 2);
        due(x.count(0), 3);
        due(x.undo(), 0);
        each(new int[] {1, 0, 1}, x.count(0), x.count(5), x.load(0));
    }

    private static void undo() {
        sentence("48: It becomes what was kept latest (which stays): YEAR.");
        ScribeTables x = new ScribeTables();
        x.image();
        x.writer(0);
        x.years(5);
        x.image();
        x.writer(1);
        x.years(30);
        x.image();
        for (int i = 0; i < 3; i++) {
            x.writer(2);
            x.years(1);
            due(x.undo(), 35);
            due(x.count(0), 2);
            due(x.now(0), 35);
        }
        sentence("48: YEAR, the last one too, and it is gone back from there");
        x = new ScribeTables();
        x.years(1);
        x.image();
        inYear(x, 999);
        due(x.years(1), STATE);
        due(x.undo(), 1);
        due(x.years(30), 0);
        inYear(x, 999);
        x.image();
        due(x.undo(), 999);
        due(x.years(1), STATE);
        sentence("48: room for WRITERS and PEOPLE is there again, and new ones are as new ones are");
        x = with("writer;person by 0");
        x.image();
        for (int i = 0; i < 5; i++) x.writer(3);
        for (int i = 0; i < 7; i++) x.person(1);
        for (int w = 1; w < 6; w++) for (int i = 1; i < 5; i++) x.law(w, i, 9);
        for (int p = 1; p < 8; p++) for (int i = 0; i < 5; i++) x.change(p, i, 1);
        for (int p = 1; p < 8; p++) x.tie(0, p, true);
        for (int p = 1; p < 7; p++) x.tie(7, p, true);
        due(x.writer(0), FULL);
        due(x.undo(), 0);
        each(new int[] {1, 1, 0, 0}, x.count(0), x.count(1), x.ties(0), x.now(2));
        due(x.of(1, 0), BEYOND);
        due(x.writerOf(1, 0), BEYOND);
        for (int w = 1; w < 6; w++) {
            due(x.writer(5), w);
            each(new int[] {5, 0, 0, 0, 4, 0}, x.writerOf(w, 0), x.writerOf(w, 1), x.writerOf(w, 2), x.writerOf(w, 3), x.writerOf(w, 4), x.writerOf(w, 5));
        }
        for (int p = 1; p < 8; p++) {
            due(x.person(2), p);
            each(new int[] {0, 0, 2, 100, 0, 0, 0}, x.of(p, 0), x.of(p, 1), x.of(p, 2), x.of(p, 3), x.of(p, 4), x.of(p, 5), x.ties(p));
        }
        sentence("48: NONE: nothing is kept.");
        refused(NONE, ScribeTables::new, y -> y.undo());
        refused(NONE, ImageEdgeTest::torn, y -> y.undo());
    }

    private static ScribeTables torn() {
        ScribeTables x = town();
        x.tear();
        return x;
    }

    private static void tear() {
        sentence("49: Nothing is kept: 1 if something was, else 0.");
        due(new ScribeTables().tear(), 0);
        ScribeTables x = townWithImage();
        due(x.tear(), 1);
        all(0, x.tear(), x.tear());
        due(x.undo(), NONE);
        due(x.image(), 1);
        due(x.image(), 1);
        due(x.tear(), 1);
        due(x.undo(), NONE);
        due(x.tear(), 0);
        x.image();
        due(x.undo(), 3);
        due(x.undo(), 3);
        due(x.tear(), 1);
        changesNothing(ImageEdgeTest::torn, y -> y.tear());
        changesNothing(ScribeTables::new, y -> y.tear());
        sentence("49: what is there stays as it is");
        x = town();
        List<Integer> want = keptOf(town());
        x.tear();
        same(keptOf(x), want);
    }

    private static void count() {
        sentence("50: 0 WRITERS, 1 PEOPLE, 2 those LETTERED, 3 PURSES of all, 4 LIES of all counted, 5 bytes of THE TAPE, 6 z, 7 SPOTS that hold something.");
        for (int i = 0; i < 8; i++) due(new ScribeTables().count(i), i == 6 ? 1 : 0);
        ScribeTables x = fullTown();
        each(new int[] {6, 8, 1, 7, -99, 2}, x.count(0), x.count(1), x.count(2), x.count(5), x.count(6), x.count(7));
        for (int p = 0; p < 8; p++) {
            due(x.change(p, LETTERED, 1), p == 3 ? 1 : 0);
            due(x.count(2), p < 3 ? p + 2 : p + 1);
        }
        x.change(7, LETTERED, 0);
        due(x.count(2), 7);
        sentence("50: 3 PURSES of all");
        x = with("writer price 1;writer price 2;writer price 4;writer price 8;writer price 16;writer price 32");
        for (int w = 0; w < 6; w++) x.person(w);
        due(x.count(3), 0);
        x.send(0, 5, 0);
        due(x.count(3), 33);
        x.send(1, 4, 0);
        due(x.count(3), 51);
        x.send(2, 3, 0);
        due(x.count(3), 63);
        due(x.now(5), 600);
        sentence("50: 4 LIES of all counted");
        x = eight();
        for (int p = 0; p < 8; p++) x.change(p, BELIEFS, 4095);
        due(x.count(4), 96);
        x.change(7, TRUTH, marks(11));
        due(x.count(4), 88);
        x.change(0, TRUTH, marks(0));
        due(x.count(4), 80);
        x.change(3, BELIEFS, marks(0, 5));
        due(x.count(4), 71);
        x.change(3, TRUTH, 4095);
        due(x.count(4), 0);
        sentence("50: 5 bytes of THE TAPE, 7 SPOTS that hold something");
        x = with("writer;soft");
        feed(x, " ".repeat(120));
        due(x.count(5), 120);
        for (int spot = 0; spot < 10; spot++) {
            x.hold(spot, spot % 2);
            due(x.count(7), spot + 1);
        }
        x.hold(5, -1);
        due(x.count(7), 9);
        changesNothing(Sentences::town, y -> y.count(0), y -> y.count(3), y -> y.count(6) + 99, y -> y.count(7));
        sentence("50: BEYOND: another what.");
        refusedFor(outside(0, 7), BEYOND, Sentences::town, (y, what) -> y.count(what));
        refusedFor(outside(0, 7), BEYOND, ScribeTables::new, (y, what) -> y.count(what));
    }

    private static void status() {
        sentence("51: How many acts answered a finding ever: which -1: all, 0 to 6: BEYOND to SIZE.");
        int[] findings = {BEYOND, FULL, KIND, NONE, STATE, MISSING, SIZE};
        Call[] calls = {y -> y.writer(7), y -> y.feed(0, 4), y -> y.as(0, SOFT), y -> y.bridge(0, 0), y -> y.gossip(1), y -> y.load(0), y -> y.sheet(0, 8, -1)};
        ScribeTables x = new ScribeTables();
        x.writer(0);
        x.hold(0, 0);
        feed(x, " ".repeat(120));
        int[] times = new int[7];
        int whole = 0;
        for (int round = 0; round < 6; round++) {
            for (int i = round; i < 7; i++) {
                due(calls[i].on(x), findings[i]);
                times[i]++;
                whole++;
                due(x.status(-1), whole);
                due(x.status(i), times[i]);
            }
        }
        for (int i = 0; i < 7; i++) due(x.status(i), times[i]);
        sentence("51: (undo() takes none back)");
        x.image();
        x.writer(-1);
        x.undo();
        due(x.status(-1), whole + 1);
        due(x.status(0), times[0] + 1);
        x.tear();
        x.undo();
        due(x.status(3), times[3] + 1);
        due(x.status(-1), whole + 2);
        sentence("51: BEYOND (counted from then on): another one.");
        refusedFor(outside(-1, 6), BEYOND, Sentences::town, (y, which) -> y.status(which));
        refusedFor(outside(-1, 6), BEYOND, ScribeTables::new, (y, which) -> y.status(which));
        x = new ScribeTables();
        due(x.status(7), BEYOND);
        due(x.status(-2), BEYOND);
        each(new int[] {2, 2, 0, 0}, x.status(-1), x.status(0), x.status(1), x.status(6));
        changesNothing(Sentences::town, y -> y.status(-1), y -> y.status(0), y -> y.status(6));
        sentence("Terms: FINDINGS are answers below -1000000: what seed() and count(6) tell, and text() with a FAULT, is none");
        x = new ScribeTables();
        for (int f : findings) {
            x.seed(f);
            x.count(6);
        }
        text(x, "x");
        all(0, x.status(-1), x.status(0), x.status(6));
    }

    public static void main(String[] args) {
        image();
        undo();
        tear();
        count();
        status();
        end("promises 47 to 51");
    }
}
