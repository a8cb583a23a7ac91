import java.util.function.Consumer;

/** Promises 32 to 43: spots, sheets, images, counts. */
public final class SpotsSheetsImagesTest {
    private static final Checks T = new Checks();
    private static final Consumer<PaneThread> BUSY = Histories::busy;
    private static final int MIN = Integer.MIN_VALUE;
    private static final int MAX = Integer.MAX_VALUE;

    public static void main(String[] args) {
        hold();
        as();
        asByNumber();
        sheet();
        write();
        copy();
        copyFindings();
        load();
        judge();
        judgeFindings();
        imageAndUndo();
        imageKeepsAll();
        tear();
        count();
        status();
        T.end("SpotsSheetsImagesTest");
    }

    private static void hold() {
        PaneThread x = new PaneThread();
        x.drop(0, 5, 10);
        x.drop(2, 6, 10);
        T.due("32: hold(0, 1)", x.hold(0, 1), 1);
        T.due("32: hold(9, 0)", x.hold(9, 0), 1);
        T.due("32: it holds that", x.as(0, 0), 1);
        T.due("32: the other", x.as(9, 0), 0);
        T.due("32: instead", x.hold(0, 0), 1);
        T.due("32: it holds that instead", x.as(0, 0), 0);
        T.due("32: nothing", x.hold(0, -1), 1);
        T.due("32: it holds nothing", x.as(0, 0), Checks.MISSING);
        T.due("32: nothing again", x.hold(0, -1), 1);
        T.refused("32: spot -1", BUSY, y -> y.hold(-1, 0), Checks.BEYOND);
        T.refused("32: spot 10", BUSY, y -> y.hold(10, 0), Checks.BEYOND);
        T.refused("32: spot 10 with no such drop", BUSY, y -> y.hold(10, 7), Checks.BEYOND);
        T.refused("32: drop -2", BUSY, y -> y.hold(1, -2), Checks.BEYOND);
        T.refused("32: drop 8", BUSY, y -> y.hold(1, 8), Checks.BEYOND);
        T.refused("32: no such drop", BUSY, y -> y.hold(1, 7), Checks.NONE);
    }

    private static void as() {
        // Row: the drop's kind; column: the kind that is asked for.
        boolean[][] under = {
            {true, false, false, false, false, false, false, false},
            {true, true, false, false, false, false, false, false},
            {true, false, true, false, false, false, false, false},
            {true, false, true, true, false, false, false, false},
            {true, false, false, false, true, false, false, false},
            {true, false, false, false, true, true, false, false},
            {true, false, true, false, false, false, true, false},
            {true, true, false, false, false, false, false, true},
        };
        PaneThread x = new PaneThread();
        for (int kind = 0; kind < 8; kind++) {
            x.drop(kind, kind, 10);
            x.hold(kind, kind);
        }
        for (int kind = 0; kind < 8; kind++) {
            for (int asked = 0; asked < 8; asked++) {
                int due = under[kind][asked] ? kind : Checks.KIND;
                T.due("33: " + kind + " as " + asked, x.as(kind, asked), due);
            }
        }
        T.refused("33: spot -1", BUSY, y -> y.as(-1, 0), Checks.BEYOND);
        T.refused("33: spot 10", BUSY, y -> y.as(10, 0), Checks.BEYOND);
        T.refused("33: kind -1", BUSY, y -> y.as(5, -1), Checks.BEYOND);
        T.refused("33: kind 8", BUSY, y -> y.as(5, 8), Checks.BEYOND);
        T.refused("33: nothing", BUSY, y -> y.as(5, 7), Checks.MISSING);
        T.refused("33: other kind", BUSY, y -> y.as(1, 3), Checks.KIND);
        T.unchanged("33: as(1, 0)", BUSY, y -> y.as(1, 0));
    }

    private static void asByNumber() {
        PaneThread x = new PaneThread();
        x.drop(1, 5, 1);
        x.drop(2, 8, 9);
        x.hold(0, 0);
        x.hold(1, 1);
        x.tick(1);
        T.due("33: gone", x.as(0, 0), Checks.MISSING);
        T.due("33: gone, of whatever kind", x.as(0, 4), Checks.MISSING);
        x.tick(15);
        T.due("33: out", x.as(1, 0), Checks.MISSING);
        x.drop(4, 5, 10);
        T.due("33: held by its number", x.as(0, 4), 0);
        T.due("33: of its new kind", x.as(0, 1), Checks.KIND);
    }

    private static void sheet() {
        PaneThread x = new PaneThread();
        T.due("34: 8 bits", x.sheet(0, 8, 40), 40);
        T.due("34: 16 bits", x.sheet(1, 16, 0), 0);
        T.due("34: 32 bits", x.sheet(3, 32, 7), 7);
        T.due("34: has so many", x.write(0, 39, 1), 1);
        T.due("34: has none", x.write(1, 0, 1), Checks.BEYOND);
        T.due("34: never told", x.write(2, 0, 1), Checks.MISSING);
        T.due("34: six is there", x.write(3, 6, 1), 1);
        T.due("34: seven isn't", x.write(3, 7, 1), Checks.BEYOND);
        T.due("34: missing", x.sheet(3, 0, 7), 0);
        T.due("34: is missing", x.write(3, 0, 1), Checks.MISSING);
        T.due("34: missing again", x.sheet(3, 0, 0), 0);
        x.sheet(0, 8, 3);
        x.write(0, 1, 5);
        T.due("34: anew", x.sheet(0, 8, 3), 3);
        x.dirt(1, 4);
        T.due("34: all 0", x.load(0, 0), 3);
        T.due("34: number 1 is 0", x.cellOf(1, 0), 0);
        T.refused("34: sheet -1", BUSY, y -> y.sheet(-1, 8, -1), Checks.BEYOND);
        T.refused("34: sheet 4", BUSY, y -> y.sheet(4, 8, -1), Checks.BEYOND);
        int[] bits = {-8, -1, 1, 4, 7, 9, 24, 31, 33, 64, MIN, MAX};
        for (int b : bits) {
            T.refused("34: bits " + b, BUSY, y -> y.sheet(0, b, -1), Checks.BEYOND);
        }
        T.refused("34: n below 0", BUSY, y -> y.sheet(0, 8, -1), Checks.SIZE);
        T.refused("34: n below 0, bits 0", BUSY, y -> y.sheet(0, 0, -1), Checks.SIZE);
        T.refused("34: n far below 0", BUSY, y -> y.sheet(0, 32, MIN), Checks.SIZE);
        T.refused("34: n above 40", BUSY, y -> y.sheet(0, 8, 41), Checks.BEYOND);
        T.refused("34: n far above 40", BUSY, y -> y.sheet(0, 16, MAX), Checks.BEYOND);
        T.refused("34: n above 40, bits 0", BUSY, y -> y.sheet(0, 0, 41), Checks.BEYOND);
    }

    private static void write() {
        PaneThread x = new PaneThread();
        int[] widths = {8, 16, 32};
        for (int bits : widths) {
            x.sheet(0, bits, 4);
            T.due("35: plain, " + bits, x.write(0, 0, 9), 1);
            T.due("35: above 8, " + bits, x.write(0, 1, 0x105), 1);
            T.due("35: above 16, " + bits, x.write(0, 2, 0x10006), 1);
            T.due("35: below 0, " + bits, x.write(0, 3, -1), 1);
            T.due("35: came, " + bits, x.load(0, 12), bits == 8 ? 3 : 1);
            T.due("35: number 0, " + bits, x.cellOf(12, 0), 9);
            if (bits == 8) {
                T.due("35: its lowest 8", x.cellOf(13, 0), 5);
                T.due("35: its lowest 8 again", x.cellOf(14, 0), 6);
            }
            x.write(0, 1, 0);
            T.due("35: came then, " + bits, x.load(0, 12), bits == 32 ? 2 : 3);
        }
        T.refused("35: sheet -1", BUSY, y -> y.write(-1, 0, 3), Checks.BEYOND);
        T.refused("35: sheet 4", BUSY, y -> y.write(4, 0, 3), Checks.BEYOND);
        T.refused("35: missing", BUSY, y -> y.write(3, -1, 3), Checks.MISSING);
        T.refused("35: number -1", BUSY, y -> y.write(0, -1, 3), Checks.BEYOND);
        T.refused("35: number 3", BUSY, y -> y.write(0, 3, 3), Checks.BEYOND);
        T.refused("35: number 0 of none", BUSY, y -> y.write(2, 0, 3), Checks.BEYOND);
    }

    private static void numbersAre(String label, PaneThread x, int s, int... due) {
        T.due(label + ", came", x.load(s, 100), due.length);
        for (int i = 0; i < due.length; i++) {
            T.due(label + ", number " + i, x.cellOf(100 + i, 0), due[i]);
        }
    }

    private static void fill(PaneThread x, int s, int bits, int n) {
        x.sheet(s, bits, n);
        for (int i = 0; i < n; i++) {
            x.write(s, i, i + 1);
        }
    }

    private static void copy() {
        PaneThread x = new PaneThread();
        fill(x, 0, 8, 6);
        x.sheet(1, 8, 4);
        T.due("36: to another", x.copy(0, 2, 1, 1, 3), 3);
        numbersAre("36: to another", x, 1, 0, 3, 4, 5);
        numbersAre("36: it stays", x, 0, 1, 2, 3, 4, 5, 6);
        T.due("36: up within one", x.copy(0, 0, 0, 2, 4), 4);
        numbersAre("36: up within one", x, 0, 1, 2, 1, 2, 3, 4);
        fill(x, 0, 8, 6);
        T.due("36: down within one", x.copy(0, 2, 0, 0, 4), 4);
        numbersAre("36: down within one", x, 0, 3, 4, 5, 6, 5, 6);
        T.due("36: none", x.copy(0, 6, 1, 4, 0), 0);
        T.due("36: all", x.copy(1, 0, 0, 2, 4), 4);
        numbersAre("36: all", x, 0, 3, 4, 0, 3, 4, 5);
        x.sheet(2, 8, 0);
        T.due("36: none of none", x.copy(2, 0, 2, 0, 0), 0);
    }

    private static void copyFindings() {
        Consumer<PaneThread> sheets = x -> {
            Histories.busy(x);
            fill(x, 0, 8, 6);
            fill(x, 1, 8, 4);
            fill(x, 2, 16, 6);
        };
        int[][] beyond = {
            {-1, 0, 3, 0, -1}, {4, 0, 3, 0, -1}, {3, 0, -1, 0, -1}, {3, 0, 4, 0, -1},
            {0, -1, 1, 0, 1}, {0, 0, 1, -1, 1}, {0, 0, 1, 0, -1}, {0, 0, 1, 0, 5}, {1, 0, 0, 0, 5},
            {0, 3, 1, 0, 4}, {0, 0, 1, 1, 4}, {0, 7, 1, 0, 0}, {0, 0, 1, 5, 0}, {0, 6, 1, 0, 1},
            {0, MAX, 1, 0, 1}, {0, 1, 1, 0, MAX}, {0, 0, 1, MAX, 1}, {0, MAX, 1, MAX, MAX}, {0, MIN, 1, 0, 1},
            {0, 0, 1, 0, MIN}, {0, 0, 1, MIN, 0}, {0, MIN, 1, MIN, MIN},
        };
        for (int[] b : beyond) {
            T.refused("36: copy(" + b[0] + ", " + b[1] + ", " + b[2] + ", " + b[3] + ", " + b[4] + ")", sheets,
                    x -> x.copy(b[0], b[1], b[2], b[3], b[4]), Checks.BEYOND);
        }
        T.refused("36: the first is missing", sheets, x -> x.copy(3, 0, 2, 0, -1), Checks.MISSING);
        T.refused("36: the other is missing", sheets, x -> x.copy(0, 0, 3, 0, -1), Checks.MISSING);
        T.refused("36: both are missing", sheets, x -> x.copy(3, 0, 3, 0, 0), Checks.MISSING);
        T.refused("36: other bits", sheets, x -> x.copy(0, 0, 2, 0, -1), Checks.KIND);
        T.refused("36: other bits the other way round", sheets, x -> x.copy(2, 0, 0, 0, 1), Checks.KIND);
    }

    private static void load() {
        PaneThread x = new PaneThread();
        fill(x, 0, 16, 9);
        T.due("37: load(0, 0)", x.load(0, 0), 9);
        T.due("37: the first", x.cellOf(0, 0), 1);
        T.due("37: the last", x.cellOf(8, 0), 9);
        T.due("37: no more", x.cellOf(9, 0), 0);
        T.due("37: no more cells", x.load(0, 190), 2);
        T.due("37: the last cell", x.cellOf(191, 0), 2);
        T.due("37: one cell", x.load(0, 191), 1);
        x.write(0, 3, 10);
        T.due("37: up to 10", x.load(0, 50), 3);
        T.due("37: 10 didn't come", x.cellOf(53, 0), 0);
        T.due("37: nor what follows", x.cellOf(54, 0), 0);
        x.write(0, 0, -1);
        T.due("37: below 0", x.load(0, 60), 0);
        x.sheet(1, 8, 0);
        T.due("37: none", x.load(1, 0), 0);
        T.refused("37: sheet -1", BUSY, y -> y.load(-1, 0), Checks.BEYOND);
        T.refused("37: sheet 4", BUSY, y -> y.load(4, 0), Checks.BEYOND);
        T.refused("37: missing", BUSY, y -> y.load(3, 192), Checks.MISSING);
        T.refused("37: cell -1", BUSY, y -> y.load(0, -1), Checks.BEYOND);
        T.refused("37: cell 192", BUSY, y -> y.load(0, 192), Checks.BEYOND);
        T.refused("37: cell 192, no numbers", BUSY, y -> y.load(2, 192), Checks.BEYOND);
    }

    private static void columns(PaneThread x, int s, int... numbers) {
        x.sheet(s, 8, numbers.length);
        for (int i = 0; i < numbers.length; i++) {
            x.write(s, i, numbers[i]);
        }
    }

    private static void judge() {
        PaneThread x = new PaneThread();
        columns(x, 0, 5, 4, 5, 5, 6, 5, 5, 4, 5, 5, 6, 5, 5, 4, 5, 5);
        T.due("38: broken, all of it", x.judge(0, 5), 0);
        T.due("38: swinging, up to 3", x.judge(0, 4), 4);
        T.due("38: going, up to 1", x.judge(0, 0), 2);
        columns(x, 1, 3, 3, 3, 3, 3, 3, 3, 3, 3, 3, 3, 3, 3, 3, 3, 3, 3);
        T.due("38: out", x.judge(1, 0), 17);
        columns(x, 1, 3, 3, 3, 3, 3, 3, 3, 3, 3, 3, 3, 3, 3, 3, 3, 3);
        T.due("38: ahead of going out", x.judge(1, 0), 0);
        columns(x, 2, 11);
        T.due("38: one number", x.judge(2, 3), 0);
        columns(x, 2, 7, 7, 7, 7);
        x.dirt(43, 9);
        T.due("38: held", x.judge(2, 2), 4);
        x.dirt(43, 7);
        T.due("38: 20 water", x.judge(2, 2), 0);
        x.dirt(43, 8);
        T.due("38: 24 is more than 23", x.judge(2, 2), 4);
        T.due("38: standing goes aside", x.judge(2, 3), 4);
        columns(x, 2, 7, 7, 7, 8);
        T.due("38: standing went aside", x.judge(2, 3), 0);
        columns(x, 2, 7, -1);
        T.due("38: no column", x.judge(2, 2), 2);
        T.unchanged("38: judge(0, 0)", BUSY, y -> y.judge(0, 0));
    }

    private static void judgeFindings() {
        T.refused("38: sheet -1", BUSY, y -> y.judge(-1, 8), Checks.BEYOND);
        T.refused("38: sheet 4", BUSY, y -> y.judge(4, 8), Checks.BEYOND);
        T.refused("38: missing", BUSY, y -> y.judge(3, 8), Checks.MISSING);
        T.refused("38: kind -1", BUSY, y -> y.judge(0, -1), Checks.BEYOND);
        T.refused("38: kind 8", BUSY, y -> y.judge(0, 8), Checks.BEYOND);
        T.refused("38: no number 0", BUSY, y -> y.judge(2, 0), Checks.BEYOND);
        Consumer<PaneThread> twelve = y -> {
            Histories.busy(y);
            y.write(0, 0, 12);
            y.write(1, 0, -1);
        };
        T.refused("38: column 12", twelve, y -> y.judge(0, 0), Checks.BEYOND);
        T.refused("38: column -1", twelve, y -> y.judge(1, 0), Checks.BEYOND);
    }

    private static void imageAndUndo() {
        PaneThread x = new PaneThread();
        T.due("40: nothing is kept", x.undo(), Checks.NONE);
        x.drop(0, 5, 10);
        T.due("39: image()", x.image(), 1);
        x.tick(20);
        T.due("40: undo()", x.undo(), 1);
        T.due("40: its cell", x.dropOf(0, 1), 5);
        T.due("40: ticks", x.count(7), 0);
        T.due("40: shed", x.shed(-1), 0);
        x.drop(0, 6, 10);
        T.due("40: the image stays", x.undo(), 1);
        x.drop(0, 6, 10);
        T.due("39: another", x.image(), 1);
        x.drop(0, 7, 10);
        T.due("40: the latest", x.undo(), 2);
        T.due("40: findings stay", x.status(3), 1);
        x.dropOf(7, 0);
        T.due("40: undo takes no finding back", x.undo(), 2);
        T.due("40: both findings stay", x.status(3), 2);
        T.refused("40: undo()", y -> {
            Histories.busy(y);
            y.tear();
        }, y -> y.undo(), Checks.NONE);
    }

    private static void changeAll(PaneThread x) {
        x.wipe();
        x.dirt(30, 8);
        x.dirt(31, 8);
        x.finger(1);
        x.set(0, 9);
        x.set(1, 9);
        x.set(2, 9);
        x.seed(99);
        x.drop(6, 1, 77);
        x.pour(0, 5);
        x.tick(18);
        x.drop(5, 1, 7);
        x.hold(1, -1);
        x.hold(2, -1);
        x.hold(3, 0);
        Checks.programFrom(x, "lean 3; wait 30");
        Checks.feedAll(x, "lean 5");
    }

    private static void imageKeepsAll() {
        Consumer<PaneThread> kept = x -> {
            Histories.busy(x);
            x.image();
        };
        T.changed("39: all that changes", kept, SpotsSheetsImagesTest::changeAll);
        T.unchanged("40: undo() brings all back", kept, x -> {
            changeAll(x);
            x.undo();
        });
        T.unchanged("39: image()", kept, x -> x.image());
        PaneThread x = new PaneThread();
        Checks.feedAll(x, "wait");
        x.sheet(0, 8, 2);
        x.image();
        Checks.feedAll(x, " 5");
        x.sheet(0, 8, 4);
        x.sheet(1, 16, 3);
        x.undo();
        T.due("39: the tape isn't kept", x.count(5), 6);
        T.due("39: sheets aren't kept", x.write(0, 3, 5), 1);
        T.due("39: nor new ones", x.write(1, 2, 5), 1);
        T.due("39: the tape reads on", x.program(), 0);
        T.due("40: no program then", x.undo(), 0);
        T.due("40: it has none", x.programOf(0, 0), Checks.BEYOND);
        Checks.programFrom(x, "wait 7;lean 2");
        T.due("40: a new one in its place", x.programOf(0, 1), 7);
        x.drop(2, 4, 9);
        x.hold(6, 0);
        x.image();
        x.tick(20);
        T.due("40: out meanwhile", x.as(6, 2), Checks.MISSING);
        x.undo();
        T.due("40: the spot holds it again", x.as(6, 2), 0);
        x.tear();
        x.tick(3);
        T.due("40: not behind tear()", x.undo(), Checks.NONE);
        T.due("40: as it was", x.dropOf(0, 1), 40);
    }

    private static void tear() {
        PaneThread x = new PaneThread();
        T.due("41: nothing", x.tear(), 0);
        x.image();
        x.image();
        T.due("41: something", x.tear(), 1);
        T.due("41: no more", x.tear(), 0);
        T.due("41: undo() then", x.undo(), Checks.NONE);
        x.image();
        T.due("41: kept anew", x.undo(), 0);
        T.due("41: one finding in all", x.status(-1), 1);
    }

    private static void count() {
        PaneThread x = new PaneThread();
        x.drop(0, 5, 10);
        x.drop(0, 6, 99);
        x.drop(1, 6, 1);
        x.finger(6);
        x.dirt(0, 1);
        x.dirt(191, 9);
        x.dirt(190, 0);
        x.seed(-5);
        Checks.programFrom(x, "wait 3");
        Checks.feedAll(x, "abc");
        int[] due = {3, 110, 17, 2, 1, 3, -5, 0};
        for (int what = 0; what < 8; what++) {
            T.due("42: count(" + what + ")", x.count(what), due[what]);
        }
        x.tick(2);
        int[] then = {2, 109, 19, 2, 1, 3, -5, 2};
        for (int what = 0; what < 8; what++) {
            T.due("42: count(" + what + ") then", x.count(what), then[what]);
        }
        x.seed(-1000001);
        T.due("42: z that looks like a finding", x.count(6), -1000001);
        T.due("42: isn't one", x.status(-1), 0);
        T.refused("42: count(-1)", BUSY, y -> y.count(-1), Checks.BEYOND);
        T.refused("42: count(8)", BUSY, y -> y.count(8), Checks.BEYOND);
        T.unchanged("42: count(1)", BUSY, y -> y.count(1));
    }

    private static void status() {
        PaneThread x = new PaneThread();
        x.cellOf(192, 0);
        x.dropOf(0, 0);
        x.dropOf(1, 0);
        x.as(0, 0);
        x.sheet(0, 8, -1);
        x.feed(0, 9);
        x.drop(0, 3, 3);
        x.hold(0, 0);
        x.as(0, 1);
        for (int i = 0; i < 25; i++) {
            x.feed(0, 4);
        }
        x.feed(0, 1);
        x.program();
        int[] due = {7 + 1, 2, 1, 1, 2, 0, 1, 1};
        for (int which = -1; which < 7; which++) {
            T.due("43: status(" + which + ")", x.status(which), due[which + 1]);
        }
        T.due("43: another one", x.status(7), Checks.BEYOND);
        T.due("43: counted from then on", x.status(0), 3);
        T.due("43: and in all", x.status(-1), 9);
        T.due("43: below", x.status(-2), Checks.BEYOND);
        T.due("43: counted too", x.status(0), 4);
        T.refused("43: status(7)", BUSY, y -> y.status(7), Checks.BEYOND);
        T.refused("43: status(-2)", BUSY, y -> y.status(-2), Checks.BEYOND);
        T.unchanged("43: status(-1)", BUSY, y -> y.status(-1));
    }
}
