import java.util.function.Consumer;

/** Promises 20 to 31: paths, ways, draws. */
public final class PathsAndWaysTest {
    private static final Checks T = new Checks();
    private static final Consumer<PaneThread> BUSY = Histories::busy;
    private static final int[] KINDS_WATERS = {-1, 8, -2147483648, 2147483647};

    public static void main(String[] args) {
        path();
        pathStanding();
        along();
        least();
        basin();
        ways();
        soonest();
        meet();
        edge();
        soft();
        need();
        open();
        seed();
        pathFindings();
        T.end("PathsAndWaysTest");
    }

    private static void pathIs(String label, PaneThread x, int[] start, int out, int steps, int end, int water) {
        T.due("20: out, " + label, x.path(start[0], start[1], start[2], 0), out);
        T.due("20: steps, " + label, x.path(start[0], start[1], start[2], 1), steps);
        T.due("20: end, " + label, x.path(start[0], start[1], start[2], 2), end);
        T.due("20: water, " + label, x.path(start[0], start[1], start[2], 3), water);
    }

    private static int[] start(int kind, int column, int water) {
        return new int[] {kind, column, water};
    }

    private static void path() {
        PaneThread x = new PaneThread();
        pathIs("clean, going", x, start(0, 5, 7), 5, 16, 185, 7);
        pathIs("clean, dropping", x, start(1, 5, 20), 5, 16, 185, 5);
        pathIs("clean, dropping, gone on the last row", x, start(1, 5, 15), -1, 15, 185, 0);
        pathIs("clean, dropping, gone", x, start(1, 5, 3), -1, 3, 41, 0);
        pathIs("clean, again", x, start(7, 5, 99), 5, 16, 185, 84);
        pathIs("clean, again, gone", x, start(7, 5, 1), -1, 1, 17, 0);
        pathIs("clean, swinging", x, start(4, 5, 7), 4, 16, 184, 7);
        pathIs("clean, broken", x, start(5, 5, 7), 5, 16, 185, 7);
        pathIs("clean, plaited", x, start(6, 5, 7), 5, 16, 185, 7);
        pathIs("clean, straight", x, start(2, 11, 7), 11, 16, 191, 7);
        pathIs("clean, standing", x, start(3, 0, 7), 0, 16, 180, 7);

        Histories.dirty(x, 41, 9, 5, 9);
        pathIs("its first cell holds nothing", x, start(2, 5, 7), -1, 2, 29, 7);
        pathIs("plaited around", x, start(6, 5, 7), 4, 16, 184, 7);
        x.set(1, 20);
        pathIs("no wind", x, start(6, 5, 7), 4, 16, 184, 7);
        x.drop(0, 5, 50);
        T.due("20: alone", x.path(6, 5, 7, 0), 4);
        T.due("20: no wetting", x.cellOf(17, 1), 0);

        PaneThread wet = new PaneThread();
        wet.finger(6);
        pathIs("again to where it is wet", wet, start(7, 5, 30), 6, 16, 186, 15);
        Histories.dirty(wet, 18, 9, 17, 9, 16, 9);
        pathIs("as wet as it is", wet, start(0, 5, 15), 6, 16, 186, 15);
        pathIs("held by one less", wet, start(0, 5, 14), -1, 0, 5, 14);
        T.unchanged("20: path(3, 5, 20, 0)", BUSY, y -> y.path(3, 5, 20, 0));
    }

    private static void pathStanding() {
        PaneThread x = new PaneThread();
        Histories.bar(x, 1, -1, 0);
        pathIs("to and fro", x, start(3, 4, 9), -1, 64, 4, 9);
        T.due("21: behind 1", x.along(3, 4, 9, 1), 3);
        T.due("21: behind 63", x.along(3, 4, 9, 63), 3);
        T.due("21: behind 64", x.along(3, 4, 9, 64), 4);
        pathIs("held at the left edge", x, start(3, 0, 9), -1, 0, 0, 9);
        pathIs("held at the right edge", x, start(3, 11, 9), -1, 0, 11, 9);
        x.dirt(15, 0);
        pathIs("one aside, then down", x, start(3, 4, 9), 3, 17, 183, 9);
        PaneThread y = new PaneThread();
        Histories.bar(y, 15, 3, 0);
        pathIs("aside ahead of the last row", y, start(3, 4, 9), 3, 17, 183, 9);
        pathIs("to and fro below", y, start(3, 6, 9), -1, 64, 12 * 14 + 6, 9);
        pathIs("to and fro from an odd column", y, start(3, 7, 9), -1, 64, 12 * 14 + 7, 9);
    }

    private static void along() {
        PaneThread x = new PaneThread();
        int[] broken = {5, 4, 5, 5, 6, 5, 5, 4, 5, 5, 6, 5, 5, 4, 5, 5};
        for (int i = 0; i < 16; i++) {
            T.due("21: broken behind " + i, x.along(5, 5, 7, i), 12 * i + broken[i]);
            T.due("21: swinging behind " + i, x.along(4, 5, 7, i), 12 * i + 5 - i % 2);
        }
        T.due("21: out", x.along(5, 5, 7, 16), Checks.NONE);
        T.due("21: not so many", x.along(5, 5, 7, 17), Checks.NONE);
        T.due("21: gone there", x.along(1, 5, 2, 2), 29);
        T.due("21: gone ahead", x.along(1, 5, 2, 3), Checks.NONE);
        x.dirt(29, 9);
        T.due("21: held there", x.along(2, 5, 7, 1), 17);
        T.due("21: held ahead", x.along(2, 5, 7, 2), Checks.NONE);
        T.refused("21: along(2, 5, 7, -1)", BUSY, y -> y.along(2, 5, 7, -1), Checks.BEYOND);
        T.refused("21: along(2, 5, 7, 65)", BUSY, y -> y.along(2, 5, 7, 65), Checks.BEYOND);
        T.refused("21: along(2, 5, 7, 64)", BUSY, y -> y.along(2, 5, 7, 64), Checks.NONE);
        T.unchanged("21: along(2, 5, 7, 0)", BUSY, y -> y.along(2, 5, 7, 0));
    }

    private static void least() {
        PaneThread x = new PaneThread();
        T.due("22: clean", x.least(0, 5, false), 1);
        T.due("22: clean, dropping", x.least(1, 5, false), 16);
        Histories.bar(x, 7, -1, 0);
        T.due("22: a bar", x.least(0, 5, false), 24);
        T.due("22: a bar, dropping", x.least(1, 5, true), 30);
        x.finger(5);
        T.due("22: wet", x.least(2, 5, false), 15);
        T.due("22: dry", x.least(2, 5, true), 24);
        T.due("22: wet, again", x.least(7, 4, false), 21);
        T.due("22: dry, again", x.least(7, 4, true), 30);
        T.due("22: it stays wet", x.cellOf(5, 1), 99);
        x.set(0, 0);
        T.due("22: no lean", x.least(2, 4, false), 27);
        T.due("22: no lean, dropping", x.least(1, 1, false), 33);
        PaneThread y = new PaneThread();
        T.due("22: standing, found", y.least(3, 0, false), 1);
        Histories.dirty(y, 17, 1, 28, 9, 29, 9, 30, 9);
        y.finger(6);
        T.due("22: dry, again past what holds it", y.least(7, 5, true), 16);
        T.refused("22: kind", BUSY, z -> z.least(8, 5, false), Checks.BEYOND);
        T.refused("22: kind -1", BUSY, z -> z.least(-1, 5, true), Checks.BEYOND);
        T.refused("22: column", BUSY, z -> z.least(0, 12, false), Checks.BEYOND);
        T.refused("22: column -1", BUSY, z -> z.least(0, -1, true), Checks.BEYOND);
        T.unchanged("22: dry", BUSY, z -> z.least(0, 5, true));
    }

    private static void basin() {
        PaneThread x = new PaneThread();
        T.due("23: straight", x.basin(2, 5, 11), 1 << 11);
        T.due("23: swinging ends at 4", x.basin(4, 5, 4), 1 << 5);
        T.due("23: swinging ends at 0", x.basin(4, 5, 0), 1 << 0 | 1 << 1);
        T.due("23: swinging ends at 11", x.basin(4, 5, 11), 0);
        Histories.bar(x, 15, 6, 0);
        T.due("23: the gap", x.basin(0, 5, 6), 1 << 5 | 1 << 6 | 1 << 7);
        T.due("23: no gap", x.basin(0, 5, 5), 0);
        T.due("23: held ones go out nowhere", x.basin(0, 5, 0), 0);
        T.due("23: with more water", x.basin(2, 24, 5), 1 << 5);
        T.refused("23: kind", BUSY, y -> y.basin(8, 5, 5), Checks.BEYOND);
        T.refused("23: water", BUSY, y -> y.basin(0, 0, 5), Checks.BEYOND);
        T.refused("23: water 100", BUSY, y -> y.basin(0, 100, 5), Checks.BEYOND);
        T.refused("23: column", BUSY, y -> y.basin(0, 5, 12), Checks.BEYOND);
        T.refused("23: column -1", BUSY, y -> y.basin(0, 5, -1), Checks.BEYOND);
        T.unchanged("23: basin(0, 5, 5)", BUSY, y -> y.basin(0, 5, 5));
    }

    private static void ways() {
        PaneThread x = new PaneThread();
        T.due("24: straight", x.ways(2, 5), 4095);
        T.due("24: swinging", x.ways(4, 5), 2047);
        T.due("24: none", x.ways(1, 15), 0);
        Histories.bar(x, 15, 6, 0);
        T.due("24: the gap", x.ways(0, 5), 1 << 6);
        x.dirt(190, 0);
        T.due("24: two gaps", x.ways(0, 5), 1 << 6 | 1 << 10);
        T.refused("24: kind", BUSY, y -> y.ways(-1, 5), Checks.BEYOND);
        T.refused("24: kind 8", BUSY, y -> y.ways(8, 5), Checks.BEYOND);
        T.refused("24: water", BUSY, y -> y.ways(0, 0), Checks.BEYOND);
        T.refused("24: water 100", BUSY, y -> y.ways(0, 100), Checks.BEYOND);
        T.unchanged("24: ways(0, 5)", BUSY, y -> y.ways(0, 5));
    }

    private static void soonest() {
        PaneThread x = new PaneThread();
        T.due("25: clean", x.soonest(0, 5, 1), 0);
        Histories.dirty(x, 16, 4);
        T.due("25: standing, aside with little lean", x.soonest(3, 4, 5), 7);
        T.due("25: standing, aside at any lean", x.soonest(3, 4, 2), 0);
        T.due("25: straight", x.soonest(2, 4, 3), 9);
        T.due("25: straight, with none", x.soonest(2, 4, 2), Checks.NONE);
        T.due("25: lean stays", x.set(0, 3), 3);
        T.refused("25: none", y -> {
            Histories.busy(y);
            Histories.bar(y, 3, -1, 0);
            y.clean(0);
        }, y -> y.soonest(2, 4, 2), Checks.NONE);
        T.refused("25: kind", BUSY, y -> y.soonest(8, 4, 2), Checks.BEYOND);
        T.refused("25: column", BUSY, y -> y.soonest(0, 12, 2), Checks.BEYOND);
        T.refused("25: water", BUSY, y -> y.soonest(0, 4, 0), Checks.BEYOND);
        T.refused("25: water 100", BUSY, y -> y.soonest(0, 4, 100), Checks.BEYOND);
        T.unchanged("25: soonest(0, 5, 20)", BUSY, y -> y.soonest(0, 5, 20));
    }

    private static void meet() {
        PaneThread x = new PaneThread();
        T.due("26: side by side", x.meet(2, 4, 5, 9), Checks.NONE);
        T.due("26: swinging at the edge", x.meet(4, 0, 1, 9), 1);
        T.due("26: the other way round", x.meet(4, 1, 0, 9), 1);
        Histories.dirty(x, 41, 9, 40, 1, 42, 0);
        T.due("26: behind three", x.meet(0, 5, 6, 9), 3);
        T.due("26: gone where they meet", x.meet(1, 5, 6, 3), 3);
        T.due("26: gone ahead of it", x.meet(1, 5, 6, 2), Checks.NONE);
        Histories.bar(x, 15, 6, 0);
        T.due("26: on the last row", x.meet(0, 7, 6, 9), 15);
        PaneThread y = new PaneThread();
        Histories.bar(y, 1, -1, 0);
        y.dirt(0, 9);
        T.due("26: on one row at unlike times", y.meet(3, 4, 3, 9), Checks.NONE);
        T.due("26: held apart", y.meet(2, 4, 5, 9), Checks.NONE);
        PaneThread z = new PaneThread();
        Histories.dirty(z, 17, 9);
        T.due("26: as many steps of both", z.meet(3, 5, 6, 9), Checks.NONE);
        T.refused("26: like columns", BUSY, v -> v.meet(0, 5, 5, 9), Checks.BEYOND);
        T.refused("26: kind", BUSY, v -> v.meet(8, 5, 6, 9), Checks.BEYOND);
        T.refused("26: one", BUSY, v -> v.meet(0, -1, 6, 9), Checks.BEYOND);
        T.refused("26: other", BUSY, v -> v.meet(0, 5, 12, 9), Checks.BEYOND);
        T.refused("26: other -1", BUSY, v -> v.meet(0, 5, -1, 9), Checks.BEYOND);
        T.refused("26: water", BUSY, v -> v.meet(0, 5, 6, 0), Checks.BEYOND);
        T.refused("26: none", v -> {
            Histories.busy(v);
            Histories.bar(v, 1, -1, 0);
            v.clean(0);
        }, v -> v.meet(2, 4, 5, 9), Checks.NONE);
        T.unchanged("26: meet(0, 5, 6, 20)", BUSY, v -> v.meet(0, 5, 6, 20));
    }

    private static void edge() {
        PaneThread x = new PaneThread();
        T.due("27: straight", x.edge(29, 2, 5), 7);
        T.due("27: another column", x.edge(30, 2, 5), 9);
        T.due("27: going around", x.edge(29, 0, 5), 9);
        T.due("27: the first cell", x.edge(5, 2, 5), 9);
        T.due("27: the last cell", x.edge(185, 2, 5), 7);
        x.dirt(29, 9);
        T.due("27: its own dirt doesn't count", x.edge(29, 2, 5), 7);
        T.due("27: its dirt stays", x.cellOf(29, 0), 9);
        T.due("27: held elsewhere", x.edge(41, 2, 5), Checks.NONE);
        x.finger(5);
        x.set(0, 0);
        T.due("27: wet, no lean", x.edge(29, 2, 5), 9);
        x.set(2, 9);
        x.tick(3);
        T.due("27: less wet", x.cellOf(29, 1), 72);
        T.due("27: 27 less 7 is 20", x.edge(29, 2, 5), 9);
        x.tick(1);
        T.due("27: 27 less 6 is 21", x.edge(29, 2, 5), 8);
        T.due("27: dropping has less by then", x.edge(185, 1, 5), 9);
        PaneThread trap = new PaneThread();
        Histories.dirty(trap, 27, 9, 28, 9, 29, 9, 17, 5);
        T.due("27: clean, or else left to where it is held", trap.edge(17, 0, 5), 0);
        T.refused("27: none", y -> {
            Histories.busy(y);
            Histories.bar(y, 3, -1, 0);
            y.clean(0);
        }, y -> y.edge(100, 2, 4), Checks.NONE);
        T.refused("27: cell", BUSY, y -> y.edge(192, 2, 5), Checks.BEYOND);
        T.refused("27: cell -1", BUSY, y -> y.edge(-1, 2, 5), Checks.BEYOND);
        T.refused("27: kind", BUSY, y -> y.edge(0, 8, 5), Checks.BEYOND);
        T.refused("27: column", BUSY, y -> y.edge(0, 2, 12), Checks.BEYOND);
        T.unchanged("27: edge(17, 2, 5)", BUSY, y -> y.edge(17, 2, 5));
    }

    private static void softIs(String label, PaneThread x, int sum, int begin, int end) {
        T.due("28: sum, " + label, x.soft(0), sum);
        T.due("28: begin, " + label, x.soft(1), begin);
        T.due("28: end, " + label, x.soft(2), end);
    }

    private static void soft() {
        PaneThread x = new PaneThread();
        softIs("clean", x, 0, 0, 0);
        Histories.bar(x, 0, -1, 0);
        softIs("row 0 doesn't count", x, 0, 0, 0);
        Histories.bar(x, 1, 7, 2);
        softIs("one gap", x, 6, 6, 7);
        x.dirt(31, 1);
        softIs("then left ahead of right", x, 6, 6, 6);
        x.dirt(30, 1);
        softIs("then right", x, 6, 6, 8);
        x.dirt(32, 1);
        softIs("then straight", x, 9, 6, 7);
        Histories.bar(x, 15, 0, 0);
        softIs("a gap too far on the last row", x, 9, 6, 0);
        Histories.bar(x, 15, 0, 2);
        Histories.bar(x, 14, 11, 0);
        softIs("gaps apart", x, 36, 6, 11);
        x.finger(11);
        T.due("28: wet is softer", x.soft(0), 27);
        PaneThread second = new PaneThread();
        Histories.bar(second, 1, 2, 0);
        softIs("from column 1", second, 0, 1, 2);
        T.refused("28: soft(-1)", BUSY, y -> y.soft(-1), Checks.BEYOND);
        T.refused("28: soft(3)", BUSY, y -> y.soft(3), Checks.BEYOND);
        for (int what = 0; what < 3; what++) {
            int w = what;
            T.unchanged("28: soft(" + what + ")", BUSY, y -> y.soft(w));
        }
    }

    private static void need() {
        PaneThread x = new PaneThread();
        T.due("29: clean", x.need(), 0);
        Histories.bar(x, 0, -1, 0);
        T.due("29: row 0 doesn't count", x.need(), 0);
        Histories.bar(x, 1, 7, 2);
        T.due("29: one gap", x.need(), 6);
        Histories.bar(x, 5, 4, 1);
        T.due("29: the greater of two", x.need(), 6);
        Histories.bar(x, 6, 6, 0);
        T.due("29: gaps apart", x.need(), 27);
        x.dirt(77, 5);
        T.due("29: the least of what is more", x.need(), 15);
        x.dirt(191, 9);
        T.due("29: not in the way", x.need(), 15);
        x.finger(5);
        T.due("29: wet lets go", x.need(), 6);
        T.unchanged("29: need()", BUSY, y -> y.need());
    }

    private static void open() {
        PaneThread x = new PaneThread();
        Histories.dirty(x, 24, 1, 25, 2, 26, 3, 27, 4, 28, 9, 35, 3, 36, 9);
        T.due("30: row 2, 1", x.open(2, 1), 7);
        T.due("30: row 2, 2", x.open(2, 2), 7);
        T.due("30: row 2, 3", x.open(2, 3), 8);
        T.due("30: row 2, 6", x.open(2, 6), 10);
        T.due("30: row 2, 8", x.open(2, 8), 10);
        T.due("30: row 2, 9", x.open(2, 9), 11);
        T.due("30: row 2, 24", x.open(2, 24), 12);
        x.set(0, 0);
        T.due("30: no lean", x.open(2, 2), 6);
        x.finger(4);
        T.due("30: wet", x.open(2, 18), 12);
        T.due("30: last row", x.open(15, 99), 12);
        x.dirt(0, 9);
        T.due("30: row 0", x.open(0, 1), 11);
        T.refused("30: row -1", BUSY, y -> y.open(-1, 5), Checks.BEYOND);
        T.refused("30: row 16", BUSY, y -> y.open(16, 5), Checks.BEYOND);
        T.refused("30: water 0", BUSY, y -> y.open(0, 0), Checks.BEYOND);
        T.refused("30: water 100", BUSY, y -> y.open(0, 100), Checks.BEYOND);
        T.unchanged("30: open(2, 9)", BUSY, y -> y.open(2, 9));
    }

    private static void seed() {
        PaneThread x = new PaneThread();
        T.due("31: seed(77)", x.seed(77), 1);
        T.due("31: seed(-1000001)", x.seed(-1000001), 77);
        T.due("31: no finding, though it looks so", x.seed(Integer.MIN_VALUE), -1000001);
        T.due("31: z", x.count(6), Integer.MIN_VALUE);
        T.due("31: none is counted", x.status(-1), 0);
        PaneThread a = new PaneThread();
        PaneThread b = new PaneThread();
        a.seed(9);
        b.seed(9);
        T.due("31: like draws", a.scatter(30), b.scatter(30));
        T.due("31: like z", a.count(6), b.count(6));
        T.changed("31: seed(12)", BUSY, y -> y.seed(12));
    }

    private static void pathFindings() {
        for (int wrong : KINDS_WATERS) {
            T.refused("20: kind " + wrong, BUSY, x -> x.path(wrong, 5, 5, 0), Checks.BEYOND);
            T.refused("20: what " + wrong, BUSY, x -> x.path(0, 5, 5, wrong), Checks.BEYOND);
            T.refused("21: kind " + wrong, BUSY, x -> x.along(wrong, 5, 5, 0), Checks.BEYOND);
        }
        int[] columns = {-1, 12};
        int[] waters = {-1, 0, 100};
        for (int column : columns) {
            T.refused("20: column " + column, BUSY, x -> x.path(0, column, 5, 0), Checks.BEYOND);
            T.refused("21: column " + column, BUSY, x -> x.along(0, column, 5, 0), Checks.BEYOND);
        }
        for (int water : waters) {
            T.refused("20: water " + water, BUSY, x -> x.path(0, 5, water, 0), Checks.BEYOND);
            T.refused("21: water " + water, BUSY, x -> x.along(0, 5, water, 0), Checks.BEYOND);
        }
        T.refused("20: what 4", BUSY, x -> x.path(0, 5, 5, 4), Checks.BEYOND);
    }
}
