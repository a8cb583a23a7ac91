import java.util.function.Consumer;

/** Boundary cases of promises 1 to 8: a new object, the pane. */
final class PaneBoundaries {
    private static final Consumer<PaneThread> BUSY = Histories::busy;

    private final Boundaries b;

    PaneBoundaries(Boundaries b) {
        this.b = b;
    }

    void all() {
        newObject();
        cellOf();
        dirt();
        set();
        scatter();
        clean();
        finger();
        fades();
    }

    private void newObject() {
        b.of(1, "All as at first; no DROPS, PROGRAMS; nothing is SHED; THE TAPE is empty, no image is kept.");
        PaneThread x = new PaneThread();
        for (int what = 0; what < 8; what++) {
            b.due("count(" + what + ")", x.count(what), what == 6 ? 1 : 0);
        }
        for (int column = -1; column < 12; column++) {
            b.due("shed(" + column + ")", x.shed(column), 0);
        }
        for (int which = -1; which < 7; which++) {
            b.due("status(" + which + ")", x.status(which), 0);
        }
        b.due("wipe()", x.wipe(), 0);
        b.due("undo()", x.undo(), Checks.NONE);
        b.due("tear()", x.tear(), 0);
        b.due("program() of the empty tape", x.program(), -1);
        b.due("programOf(0, 0)", x.programOf(0, 0), Checks.BEYOND);
        for (int drop = 0; drop < 8; drop++) {
            b.due("dropOf(" + drop + ", 0)", x.dropOf(drop, 0), Checks.NONE);
        }
        for (int spot = 0; spot < 10; spot++) {
            b.due("as(" + spot + ", 0)", x.as(spot, 0), Checks.MISSING);
        }
        for (int s = 0; s < 4; s++) {
            b.due("load(" + s + ", 0)", x.load(s, 0), Checks.MISSING);
        }
        b.due("LEAN", x.set(0, 0), 3);
        b.due("WIND", x.set(1, 0), 0);
        b.due("FADE", x.set(2, 0), 1);
        b.due("the first drop's number", x.drop(0, 0, 1), 0);
        PaneThread y = new PaneThread();
        for (int cell = 0; cell < 192; cell++) {
            b.due("DIRT of " + cell, y.cellOf(cell, 0), 0);
            b.due("WET of " + cell, y.cellOf(cell, 1), 0);
        }
        PaneThread z = new PaneThread();
        z.dirt(3, 3);
        b.due("another object has none of that DIRT", new PaneThread().cellOf(3, 0), 0);
    }

    private void cellOf() {
        b.of(2, "Of a CELL: what 0 DIRT, 1 WET, 2 HOLD, 3 the least number of a DROP on it (-1).");
        PaneThread x = new PaneThread();
        int[] edges = {0, 11, 12, 23, 180, 191};
        for (int i = 0; i < edges.length; i++) {
            x.dirt(edges[i], i + 1);
        }
        for (int i = 0; i < edges.length; i++) {
            b.due("DIRT of " + edges[i], x.cellOf(edges[i], 0), i + 1);
            b.due("HOLD of " + edges[i], x.cellOf(edges[i], 2), 3 * (i + 1));
        }
        x.finger(11);
        b.due("WET of 11", x.cellOf(11, 1), 99);
        b.due("WET of 191", x.cellOf(191, 1), 99);
        b.due("WET of 12, which is in another column", x.cellOf(12, 1), 0);
        b.due("HOLD of 11, 0 at least", x.cellOf(11, 2), 0);
        b.due("no DROP", x.cellOf(5, 3), -1);
        x.drop(1, 6, 1);
        x.drop(2, 5, 9);
        x.drop(2, 5, 9);
        b.due("number 0, not nothing", x.cellOf(6, 3), 0);
        b.due("the least number of two", x.cellOf(5, 3), 1);
        x.tick(1);
        b.due("none where a DROP was", x.cellOf(5, 3), -1);
        b.due("none where one is GONE", x.cellOf(18, 3), -1);
        b.due("none on cell 0, though DROPS that are GONE have been", x.cellOf(0, 3), -1);
        PaneThread eight = new PaneThread();
        for (int i = 0; i < 8; i++) {
            eight.drop(0, i + 4, 9);
        }
        b.due("number 7", eight.cellOf(11, 3), 7);

        b.of(2, "BEYOND.");
        for (int what = 0; what < 4; what++) {
            int w = what;
            b.bounds("cellOf(cell, " + w + ")", 0, 191, (y, v) -> y.cellOf(v, w));
        }
        b.bounds("cellOf(0, what)", 0, 3, (y, v) -> y.cellOf(0, v));
        b.bounds("cellOf(191, what)", 0, 3, (y, v) -> y.cellOf(191, v));
        b.refused("both", BUSY, y -> y.cellOf(192, 4), Checks.BEYOND);
    }

    private void dirt() {
        b.of(3, "DIRT of a CELL becomes v: what it was.");
        PaneThread x = new PaneThread();
        int[] edges = {0, 191};
        for (int cell : edges) {
            b.due("from the least to the most of " + cell, x.dirt(cell, 9), 0);
            b.due("from the most to the most", x.dirt(cell, 9), 9);
            b.due("from the most to the least", x.dirt(cell, 0), 9);
            b.due("from the least to the least", x.dirt(cell, 0), 0);
        }
        x.dirt(96, 4);
        b.due("no DIRT of the one ahead", x.cellOf(95, 0), 0);
        b.due("no DIRT of the one behind", x.cellOf(97, 0), 0);

        b.of(3, "BEYOND.");
        b.bounds("dirt(cell, 5)", 0, 191, (y, v) -> y.dirt(v, 5));
        b.bounds("dirt(0, v)", 0, 9, (y, v) -> y.dirt(0, v));
        b.bounds("dirt(191, v)", 0, 9, (y, v) -> y.dirt(191, v));
    }

    private void set() {
        b.of(4, "What 0 LEAN, 1 WIND, 2 FADE becomes v: what it was.");
        PaneThread x = new PaneThread();
        int[][] ends = {{0, 9, 3}, {-20, 20, 0}, {0, 9, 1}};
        for (int what = 0; what < 3; what++) {
            int least = ends[what][0];
            int most = ends[what][1];
            b.due("set(" + what + ", " + most + ")", x.set(what, most), ends[what][2]);
            b.due("set(" + what + ", " + least + ")", x.set(what, least), most);
            b.due("set(" + what + ", " + least + ") again", x.set(what, least), least);
        }
        x.set(1, 20);
        b.due("LEAN stays, as WIND becomes 20", x.set(0, 0), 0);
        b.due("FADE stays, as WIND becomes 20", x.set(2, 0), 0);
        b.due("WIND, told as it was", x.set(1, 0), 20);

        b.of(4, "BEYOND.");
        b.bounds("set(what, 0)", 0, 2, (y, v) -> y.set(v, 0));
        b.bounds("set(0, v)", 0, 9, (y, v) -> y.set(0, v));
        b.bounds("set(1, v)", -20, 20, (y, v) -> y.set(1, v));
        b.bounds("set(2, v)", 0, 9, (y, v) -> y.set(2, v));
    }

    /** A seed from which the first draw by 192 is a cell and the next one by 10 is dirt. */
    private static int seedFor(int cell, int dirt) {
        for (int seed = 0; seed < 10000000; seed++) {
            int first = seed * 1103515245 + 12345;
            int second = first * 1103515245 + 12345;
            if ((first >>> 8) % 192 == cell && (second >>> 8) % 10 == dirt) {
                return seed;
            }
        }
        throw new IllegalStateException("no seed draws " + cell + " and " + dirt);
    }

    private void scatter() {
        b.of(5, "n (1 to 60) times a CELL (the rest of a draw by 192) gets DIRT (that of one more by 10):"
                + " how many have DIRT then, of all.");
        int[][] draws = {{0, 9}, {191, 9}, {0, 1}, {191, 1}};
        for (int[] d : draws) {
            PaneThread x = new PaneThread();
            x.seed(seedFor(d[0], d[1]));
            b.due("scatter(1) of " + d[0] + " with " + d[1], x.scatter(1), 1);
            b.due("DIRT of " + d[0], x.cellOf(d[0], 0), d[1]);
        }
        PaneThread none = new PaneThread();
        none.dirt(100, 7);
        none.dirt(101, 7);
        none.seed(seedFor(100, 0));
        b.due("DIRT 0 takes away what there was", none.scatter(1), 1);
        b.due("DIRT of 100", none.cellOf(100, 0), 0);
        PaneThread most = new PaneThread();
        int z = 1;
        int[] dirt = new int[192];
        for (int i = 0; i < 60; i++) {
            z = z * 1103515245 + 12345;
            int cell = (z >>> 8) % 192;
            z = z * 1103515245 + 12345;
            dirt[cell] = (z >>> 8) % 10;
        }
        int dirty = 0;
        for (int d : dirt) {
            dirty += d > 0 ? 1 : 0;
        }
        b.due("scatter(60)", most.scatter(60), dirty);
        b.due("two draws for each of 60", most.count(6), z);
        for (int cell = 0; cell < 192; cell++) {
            b.due("DIRT of " + cell + " behind scatter(60)", most.cellOf(cell, 0), dirt[cell]);
        }
        PaneThread wraps = new PaneThread();
        wraps.seed(Integer.MIN_VALUE);
        int first = Integer.MIN_VALUE * 1103515245 + 12345;
        int second = first * 1103515245 + 12345;
        wraps.scatter(1);
        b.due("z below 0 is drawn from without its sign", wraps.cellOf((first >>> 8) % 192, 0), (second >>> 8) % 10);
        b.due("z wraps around", wraps.count(6), second);

        b.of(5, "BEYOND.");
        b.bounds("scatter(n)", 1, 60, (y, v) -> y.scatter(v));
        b.refused("scatter(0)", BUSY, y -> y.scatter(0), Checks.BEYOND);
    }

    private void clean() {
        b.of(6, "A row of CELLS has no DIRT and isn't WET any more: how many of them had DIRT.");
        int[] rows = {0, 15};
        for (int row : rows) {
            PaneThread x = new PaneThread();
            b.due("a row without DIRT", x.clean(row), 0);
            Histories.bar(x, row, -1, 0);
            b.due("a row full of DIRT", x.clean(row), 12);
            b.due("no DIRT any more", x.count(3), 0);
            b.due("DIRT of the first is 0", x.cellOf(12 * row, 0), 0);
            b.due("DIRT of the last is 0", x.cellOf(12 * row + 11, 0), 0);
            b.due("again", x.clean(row), 0);
            Histories.dirty(x, 12 * row, 1, 12 * row + 11, 1);
            b.due("its first and last CELL", x.clean(row), 2);
            x.finger(0);
            x.finger(11);
            b.due("WET ones without DIRT don't count", x.clean(row), 0);
            b.due("but aren't WET any more", x.count(2), 30);
        }
        PaneThread x = new PaneThread();
        Histories.dirty(x, 11, 5, 24, 6, 12, 7, 23, 8);
        x.finger(0);
        x.finger(11);
        b.due("clean(1)", x.clean(1), 2);
        b.due("DIRT of the last CELL above stays", x.cellOf(11, 0), 5);
        b.due("DIRT of the first CELL below stays", x.cellOf(24, 0), 6);
        b.due("the last CELL above stays WET", x.cellOf(11, 1), 99);
        b.due("the first CELL below stays WET", x.cellOf(24, 1), 99);
        b.due("12 isn't WET", x.cellOf(12, 1), 0);
        b.due("23 isn't WET", x.cellOf(23, 1), 0);
        PaneThread held = new PaneThread();
        held.drop(0, 5, 9);
        held.clean(0);
        b.due("a DROP stays on it", held.cellOf(5, 3), 0);

        b.of(6, "BEYOND.");
        b.bounds("clean(row)", 0, 15, (y, v) -> y.clean(v));
    }

    private void finger() {
        b.of(7, "A FINGER is drawn down a column: each CELL of it is 99 WET: how many weren't 99 WET.");
        int[] columns = {0, 11};
        for (int column : columns) {
            PaneThread x = new PaneThread();
            b.due("none is WET", x.finger(column), 16);
            b.due("all are 99 WET", x.finger(column), 0);
            b.due("no other CELL", x.count(2), 16);
            for (int row = 0; row < 16; row++) {
                b.due("row " + row, x.cellOf(12 * row + column, 1), 99);
            }
            x.clean(0);
            b.due("one that isn't WET, on row 0", x.finger(column), 1);
            x.clean(15);
            b.due("one that isn't WET, on row 15", x.finger(column), 1);
            x.tick(1);
            b.due("98 WET isn't 99 WET", x.finger(column), 16);
            x.set(2, 0);
            x.tick(1);
            b.due("still 99 WET with FADE 0", x.finger(column), 0);
        }

        b.of(7, "BEYOND.");
        b.bounds("finger(column)", 0, 11, (y, v) -> y.finger(v));
    }

    private void fades() {
        b.of(8, "Behind how many TICKS a CELL isn't WET any more (if nothing comes to it).");
        PaneThread x = new PaneThread();
        b.due("not WET", x.fades(0), 0);
        x.set(2, 0);
        b.due("not WET, FADE 0", x.fades(191), 0);
        x.finger(0);
        x.finger(11);
        int[] due = {99, 50, 33, 25, 20, 17, 15, 13, 11};
        for (int fade = 1; fade <= 9; fade++) {
            x.set(2, fade);
            b.due("99 WET, FADE " + fade, x.fades(0), due[fade - 1]);
            b.due("99 WET, FADE " + fade + ", the last CELL", x.fades(191), due[fade - 1]);
        }
        for (int fade = 1; fade <= 9; fade++) {
            PaneThread y = new PaneThread();
            y.finger(4);
            y.set(2, fade);
            for (int left = due[fade - 1] - 1; left > 0; left -= 49) {
                y.tick(Math.min(49, left));
            }
            b.holds("still WET one TICK ahead, FADE " + fade, y.cellOf(4, 1) > 0);
            b.due("one more, FADE " + fade, y.fades(4), 1);
            y.tick(1);
            b.due("not WET then, FADE " + fade, y.cellOf(4, 1), 0);
            b.due("none more, FADE " + fade, y.fades(4), 0);
        }
        int[][] wets = {{1, 1}, {8, 1}, {9, 1}, {10, 2}, {18, 2}, {19, 3}};
        for (int[] w : wets) {
            PaneThread y = new PaneThread();
            Histories.wetTo(y, 4, w[0]);
            y.set(2, 9);
            b.due(w[0] + " WET, FADE 9", y.fades(4), w[1]);
        }

        b.of(8, "BEYOND.");
        b.bounds("fades(cell)", 0, 191, (y, v) -> y.fades(v));
        Consumer<PaneThread> lasting = y -> {
            Histories.busy(y);
            y.finger(3);
            y.set(2, 0);
        };
        b.refused("fades(192), FADE 0", lasting, y -> y.fades(192), Checks.BEYOND);
        b.refused("fades(-1), FADE 0", lasting, y -> y.fades(-1), Checks.BEYOND);

        b.of(8, "NONE: FADE is 0, and it is WET.");
        b.refused("99 WET, FADE 0", lasting, y -> y.fades(3), Checks.NONE);
        b.refused("99 WET, FADE 0, the last row", lasting, y -> y.fades(183), Checks.NONE);
        PaneThread little = new PaneThread();
        Histories.wetTo(little, 4, 1);
        little.set(2, 0);
        b.due("1 WET, FADE 0", little.fades(4), Checks.NONE);
        b.due("not WET, FADE 0", little.fades(5), 0);
        little.set(2, 1);
        b.due("1 WET, FADE 1", little.fades(4), 1);
    }
}
