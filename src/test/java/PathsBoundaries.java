import java.util.function.Consumer;

/** Boundary cases of promises 20 to 31: paths, ways, draws. */
final class PathsBoundaries {
    private static final Consumer<PaneThread> BUSY = Histories::busy;
    /** Straight ones are held on row 2, whatever lean there is, with little water. */
    private static final Consumer<PaneThread> BARRED = x -> {
        Histories.busy(x);
        for (int row = 0; row < 4; row++) {
            x.clean(row);
        }
        Histories.bar(x, 3, -1, 0);
    };

    private final Boundaries b;

    PathsBoundaries(Boundaries b) {
        this.b = b;
    }

    void all() {
        path();
        along();
        least();
        basin();
        ways();
        soonest();
        meet();
        edge();
        soft();
        need();
        open();
        seed();
    }

    private void pathIs(String label, PaneThread x, int kind, int column, int water, int... due) {
        for (int what = 0; what < 4; what++) {
            b.due(label + ", what " + what, x.path(kind, column, water, what), due[what]);
        }
    }

    private void path() {
        b.of(20, "THE PATH of a KIND from a column with WATER: what 0 the column at which it goes OUT (-1: it doesn't),"
                + " 1 STEPS, 2 the CELL where it ends (the last one ahead of going OUT), 3 WATER then (0: it is GONE).");
        PaneThread x = new PaneThread();
        pathIs("the least of all", x, 0, 0, 1, 0, 16, 180, 1);
        pathIs("the most of all", x, 6, 11, 99, 11, 16, 191, 99);
        pathIs("GONE behind one STEP", x, 1, 0, 1, -1, 1, 12, 0);
        pathIs("GONE behind one STEP, AGAIN", x, 7, 11, 1, -1, 1, 23, 0);
        pathIs("GONE on the last row", x, 1, 11, 15, -1, 15, 191, 0);
        pathIs("OUT with the last WATER", x, 1, 11, 16, 11, 16, 191, 1);
        pathIs("OUT with the last WATER, AGAIN", x, 7, 0, 16, 0, 16, 180, 1);
        Histories.bar(x, 1, -1, 0);
        pathIs("HELD at once on the first CELL", x, 0, 0, 1, -1, 0, 0, 1);
        pathIs("HELD at once in the last column", x, 3, 11, 23, -1, 0, 11, 23);
        pathIs("HELD at once, DROPPING", x, 1, 5, 23, -1, 0, 5, 23);
        pathIs("just not HELD", x, 0, 5, 24, 5, 16, 185, 24);
        pathIs("64 STEPS", x, 3, 5, 23, -1, 64, 5, 23);
        Histories.bar(x, 15, -1, 0);
        x.clean(1);
        pathIs("HELD ahead of the last row", x, 2, 5, 23, -1, 14, 173, 23);
        pathIs("to the last row", x, 2, 5, 24, 5, 16, 185, 24);
        pathIs("DROPPING, HELD ahead of the last row", x, 1, 5, 37, -1, 14, 173, 23);
        pathIs("DROPPING, to the last row", x, 1, 5, 38, 5, 16, 185, 23);

        b.of(20, "BEYOND: kind, column, water, what.");
        b.bounds("path(kind, 5, 5, 0)", 0, 7, (y, v) -> y.path(v, 5, 5, 0));
        b.bounds("path(0, column, 5, 0)", 0, 11, (y, v) -> y.path(0, v, 5, 0));
        b.bounds("path(0, 5, water, 0)", 1, 99, (y, v) -> y.path(0, 5, v, 0));
        b.bounds("path(0, 5, 5, what)", 0, 3, (y, v) -> y.path(0, 5, 5, v));
        b.refused("all four", BUSY, y -> y.path(8, 12, 100, 4), Checks.BEYOND);
    }

    private void along() {
        b.of(21, "The CELL of a PATH behind i STEPS (0 to 64).");
        PaneThread x = new PaneThread();
        b.due("behind none, at the first column", x.along(0, 0, 1, 0), 0);
        b.due("behind none, at the last column", x.along(4, 11, 99, 0), 11);
        b.due("ahead of going OUT", x.along(0, 0, 1, 15), 180);
        b.due("GONE there", x.along(1, 5, 15, 15), 185);
        Histories.bar(x, 1, -1, 0);
        b.due("HELD there", x.along(0, 7, 1, 0), 7);
        b.due("behind 63", x.along(3, 1, 9, 63), 2);
        b.due("behind 64", x.along(3, 1, 9, 64), 1);

        b.of(21, "BEYOND: kind, column, water, i.");
        b.bounds("along(kind, 5, 5, 0)", 0, 7, (y, v) -> y.along(v, 5, 5, 0));
        b.bounds("along(0, column, 5, 0)", 0, 11, (y, v) -> y.along(0, v, 5, 0));
        b.bounds("along(0, 5, water, 0)", 1, 99, (y, v) -> y.along(0, 5, v, 0));
        b.bounds("along(0, 5, 5, i)", 0, 64, (y, v) -> y.along(0, 5, 5, v));
        b.refused("i of a PATH that has not so many", BARRED, y -> y.along(2, 5, 5, 65), Checks.BEYOND);

        b.of(21, "NONE: it has not so many, or is OUT.");
        b.refused("64 of one that has two", BARRED, y -> y.along(2, 5, 5, 64), Checks.NONE);
        b.refused("one more than it has", BARRED, y -> y.along(2, 5, 5, 3), Checks.NONE);
        PaneThread y = new PaneThread();
        b.due("OUT", y.along(0, 0, 1, 16), Checks.NONE);
        b.due("behind OUT", y.along(0, 0, 1, 17), Checks.NONE);
        b.due("far behind OUT", y.along(0, 11, 1, 64), Checks.NONE);
        b.due("behind where it is GONE", y.along(1, 5, 15, 16), Checks.NONE);
        Histories.bar(y, 1, -1, 0);
        b.due("behind where it is HELD", y.along(0, 5, 1, 1), Checks.NONE);
    }

    private void least() {
        b.of(22, "The least WATER (1 to 99) with which a PATH of a KIND from a column goes OUT;"
                + " dry: as if nothing were WET.");
        PaneThread x = new PaneThread();
        b.due("1", x.least(0, 0, false), 1);
        b.due("1 at the last column", x.least(3, 11, true), 1);
        b.due("one that loses WATER", x.least(1, 0, false), 16);
        Histories.bar(x, 15, -1, 0);
        x.set(0, 0);
        b.due("no LEAN, 27 to hold it", x.least(2, 5, false), 27);
        b.due("no LEAN, 27 to hold what loses WATER", x.least(1, 5, false), 41);
        x.set(0, 9);
        b.due("all LEAN", x.least(2, 5, false), 18);
        x.finger(5);
        b.due("WET", x.least(2, 5, false), 9);
        b.due("dry", x.least(2, 5, true), 18);
        b.due("beside what is WET", x.least(2, 4, false), 18);
        b.due("it stays WET", x.cellOf(185, 1), 99);
        PaneThread again = new PaneThread();
        Histories.wetTo(again, 6, 1);
        Histories.bar(again, 15, 4, 0);
        b.due("AGAIN, led astray by what is WET", again.least(7, 5, false), 38);
        b.due("AGAIN, dry", again.least(7, 5, true), 16);
        PaneThread trap = new PaneThread();
        Histories.dirty(trap, 17, 1, 28, 9, 29, 9, 30, 9);
        b.due("AGAIN, nothing being WET: not STRAIGHT, where it would be HELD", trap.least(7, 5, true), 16);

        b.of(22, "BEYOND.");
        b.bounds("least(kind, 5, false)", 0, 7, (y, v) -> y.least(v, 5, false));
        b.bounds("least(kind, 5, true)", 0, 7, (y, v) -> y.least(v, 5, true));
        b.bounds("least(0, column, false)", 0, 11, (y, v) -> y.least(0, v, false));
        b.bounds("least(0, column, true)", 0, 11, (y, v) -> y.least(0, v, true));

        b.of(22, "NONE.");
        // No pane holds 99: the most that a cell holds is 27, and a path costs 15 at most on its way there.
        PaneThread hard = new PaneThread();
        Histories.hardest(hard);
        hard.set(0, 0);
        for (int kind = 0; kind < 8; kind++) {
            int due = kind == 1 || kind == 7 ? 41 : 27;
            b.due("the hardest pane, KIND " + kind, hard.least(kind, 0, true), due);
            b.due("the hardest pane, KIND " + kind + ", the last column", hard.least(kind, 11, false), due);
        }
        b.due("no finding", hard.status(-1), 0);
    }

    private void basin() {
        b.of(23, "Columns from which PATHS of a KIND with WATER go OUT at a column, as a set.");
        PaneThread x = new PaneThread();
        b.due("the first", x.basin(2, 1, 0), 1);
        b.due("the last", x.basin(2, 99, 11), 2048);
        b.due("none, as all are GONE", x.basin(1, 15, 5), 0);
        b.due("one, with one more", x.basin(1, 16, 5), 32);
        b.due("two that come together at the edge", x.basin(4, 5, 0), 3);
        b.due("none that ends at the last column", x.basin(4, 5, 11), 0);
        PaneThread held = new PaneThread();
        Histories.bar(held, 1, -1, 0);
        b.due("none, as all are HELD", held.basin(0, 23, 0), 0);
        b.due("all that can", held.basin(0, 24, 0), 1);
        b.due("none that has 64 STEPS", held.basin(3, 5, 4), 0);
        PaneThread funnel = new PaneThread();
        Histories.funnel(funnel);
        b.due("all of them", funnel.basin(0, 99, 0), 4095);
        b.due("none beside it", funnel.basin(0, 99, 1), 0);
        b.due("none at the other edge", funnel.basin(0, 99, 11), 0);

        b.of(23, "BEYOND.");
        b.bounds("basin(kind, 5, 5)", 0, 7, (y, v) -> y.basin(v, 5, 5));
        b.bounds("basin(0, water, 5)", 1, 99, (y, v) -> y.basin(0, v, 5));
        b.bounds("basin(0, 5, column)", 0, 11, (y, v) -> y.basin(0, 5, v));
    }

    private void ways() {
        b.of(24, "Columns at which PATHS of a KIND with WATER go OUT, as a set.");
        PaneThread x = new PaneThread();
        b.due("all", x.ways(2, 1), 4095);
        b.due("all but the last", x.ways(4, 99), 2047);
        b.due("none, as all are GONE", x.ways(1, 15), 0);
        b.due("all, with one more", x.ways(1, 16), 4095);
        Histories.bar(x, 15, 0, 0);
        b.due("the first alone", x.ways(2, 23), 1);
        x.clean(15);
        Histories.bar(x, 15, 11, 0);
        b.due("the last alone", x.ways(2, 23), 2048);
        Histories.bar(x, 15, -1, 0);
        b.due("none, as all are HELD", x.ways(0, 23), 0);
        b.due("none that has 64 STEPS", x.ways(3, 23), 0);
        b.due("all that can", x.ways(0, 24), 4095);
        PaneThread funnel = new PaneThread();
        Histories.funnel(funnel);
        b.due("one at which all of them go OUT", funnel.ways(0, 99), 1);

        b.of(24, "BEYOND.");
        b.bounds("ways(kind, 5)", 0, 7, (y, v) -> y.ways(v, 5));
        b.bounds("ways(0, water)", 1, 99, (y, v) -> y.ways(0, v));
    }

    private void soonest() {
        b.of(25, "The LEAN (0 to 9) with which a PATH goes OUT with fewest STEPS.");
        PaneThread x = new PaneThread();
        x.set(0, 9);
        b.due("the least LEAN", x.soonest(0, 0, 1), 0);
        b.due("LEAN stays", x.set(0, 0), 9);
        Histories.bar(x, 1, -1, 0);
        b.due("the least LEAN of all that do", x.soonest(2, 5, 27), 0);
        b.due("one more", x.soonest(2, 5, 26), 1);
        b.due("the greatest LEAN", x.soonest(2, 11, 18), 9);
        b.due("LEAN stays, too", x.set(0, 0), 0);
        PaneThread aside = new PaneThread();
        aside.dirt(16, 3);
        b.due("aside with less LEAN, straight with more", aside.soonest(3, 4, 1), 8);
        aside.dirt(16, 9);
        b.due("aside with any: the least", aside.soonest(3, 4, 17), 0);
        b.due("aside, but with the greatest", aside.soonest(3, 4, 18), 9);

        b.of(25, "BEYOND.");
        b.bounds("soonest(kind, 5, 5)", 0, 7, (y, v) -> y.soonest(v, 5, 5));
        b.bounds("soonest(0, column, 5)", 0, 11, (y, v) -> y.soonest(0, v, 5));
        b.bounds("soonest(0, 5, water)", 1, 99, (y, v) -> y.soonest(0, 5, v));

        b.of(25, "NONE: with none it does.");
        b.refused("HELD with any", BARRED, y -> y.soonest(2, 5, 17), Checks.NONE);
        PaneThread none = new PaneThread();
        b.due("GONE with any", none.soonest(1, 5, 15), Checks.NONE);
        b.due("OUT with one more WATER", none.soonest(1, 5, 16), 0);
        Histories.bar(none, 1, -1, 0);
        b.due("HELD with any, one less WATER than needed", none.soonest(0, 0, 17), Checks.NONE);
        b.due("64 STEPS with any", none.soonest(3, 5, 17), Checks.NONE);
        b.due("OUT with the greatest", none.soonest(3, 5, 18), 9);
    }

    private void meet() {
        b.of(26, "Behind how many STEPS (0 to 64; as many of both) PATHS of a KIND with WATER"
                + " from two unlike columns are first on one CELL.");
        PaneThread x = new PaneThread();
        b.due("behind one", x.meet(4, 0, 1, 1), 1);
        b.due("behind one, the other way round", x.meet(4, 1, 0, 99), 1);
        x.dirt(23, 1);
        b.due("behind one, with the last column", x.meet(0, 10, 11, 9), 1);
        b.due("behind one, where both are GONE", x.meet(1, 11, 10, 1), 1);
        PaneThread last = new PaneThread();
        Histories.bar(last, 15, 6, 0);
        b.due("on the last row", last.meet(0, 6, 7, 9), 15);
        b.due("on the last row from far", last.meet(0, 5, 7, 9), 15);
        b.due("on the last row, both GONE there", last.meet(1, 5, 7, 15), 15);
        b.due("both GONE ahead of it", last.meet(1, 5, 7, 14), Checks.NONE);
        PaneThread late = new PaneThread();
        late.dirt(16, 9);
        b.due("on the same CELLS, but one a STEP later", late.meet(3, 4, 3, 9), Checks.NONE);
        b.due("OUT at one column, too", late.basin(3, 9, 3), 1 << 3 | 1 << 4);

        b.of(26, "BEYOND.");
        b.bounds("meet(kind, 4, 5, 5)", 0, 7, (y, v) -> y.meet(v, 4, 5, 5));
        b.bounds("meet(0, one, 5, 5)", 0, 11, (y, v) -> y.meet(0, v, 5, 5));
        b.bounds("meet(0, 5, other, 5)", 0, 11, (y, v) -> y.meet(0, 5, v, 5));
        b.bounds("meet(0, 4, 5, water)", 1, 99, (y, v) -> y.meet(0, 4, 5, v));
        for (int column = 0; column < 12; column++) {
            int c = column;
            b.refused("like columns " + c, BUSY, y -> y.meet(0, c, c, 5), Checks.BEYOND);
        }

        b.of(26, "NONE.");
        b.refused("both HELD apart", BARRED, y -> y.meet(2, 4, 5, 5), Checks.NONE);
        PaneThread none = new PaneThread();
        b.due("side by side to OUT", none.meet(2, 0, 11, 1), Checks.NONE);
        b.due("GONE apart", none.meet(1, 4, 5, 1), Checks.NONE);
        Histories.bar(none, 1, -1, 0);
        b.due("64 STEPS, always changing places", none.meet(3, 3, 4, 5), Checks.NONE);
        b.due("HELD at once", none.meet(0, 0, 11, 5), Checks.NONE);
    }

    private void edge() {
        b.of(27, "The greatest DIRT (0 to 9) of a CELL with which a PATH of a KIND from a column with 20 WATER goes OUT.");
        PaneThread x = new PaneThread();
        b.due("20 WATER and LEAN 3", x.edge(12, 2, 0), 7);
        b.due("the last CELL", x.edge(191, 2, 11), 7);
        b.due("the first CELL, where it begins", x.edge(0, 2, 0), 9);
        b.due("a CELL that isn't on it", x.edge(191, 2, 0), 9);
        x.set(0, 0);
        b.due("LEAN 0", x.edge(12, 2, 0), 6);
        b.due("LEAN 0, DROPPING, the last row", x.edge(180, 1, 0), 9);
        x.set(0, 7);
        b.due("LEAN 7, just not all", x.edge(12, 2, 0), 9);
        x.set(0, 6);
        b.due("LEAN 6, just not 9", x.edge(12, 2, 0), 8);
        PaneThread small = new PaneThread();
        Histories.dirty(small, 27, 9, 28, 9, 29, 9, 17, 5);
        b.due("0 alone", small.edge(17, 0, 5), 0);
        b.due("its DIRT stays", small.cellOf(17, 0), 5);
        PaneThread great = new PaneThread();
        Histories.dirty(great, 28, 9, 29, 9, 30, 9);
        b.due("HELD with 0, OUT with 9", great.edge(17, 0, 5), 9);

        b.of(27, "BEYOND: cell, kind, column.");
        b.bounds("edge(cell, 0, 5)", 0, 191, (y, v) -> y.edge(v, 0, 5));
        b.bounds("edge(5, kind, 5)", 0, 7, (y, v) -> y.edge(5, v, 5));
        b.bounds("edge(5, 0, column)", 0, 11, (y, v) -> y.edge(5, 0, v));

        b.of(27, "NONE.");
        b.refused("HELD elsewhere", BARRED, y -> y.edge(100, 2, 5), Checks.NONE);
        PaneThread none = new PaneThread();
        Histories.dirty(none, 12, 8, 36, 8);
        b.due("HELD elsewhere, too", none.edge(12, 2, 0), Checks.NONE);
        none.dirt(36, 7);
        b.due("not HELD elsewhere", none.edge(12, 2, 0), 7);
    }

    private void soft() {
        b.of(28, "The WAY with the least sum of HOLDS (of CELLS behind row 0): what 0 this sum, 1 the column where it"
                + " begins, 2 where it ends (of several the one that begins at the least column; of these, row by row,"
                + " STRAIGHT, then LEFT, then RIGHT).");
        PaneThread x = new PaneThread();
        softIs("nothing holds", x, 0, 0, 0);
        Histories.bar(x, 0, 11, 0);
        softIs("row 0 doesn't count", x, 0, 0, 0);
        Histories.bar(x, 15, 11, 0);
        softIs("the last row counts; the last column is reached from the first", x, 0, 0, 11);
        Histories.bar(x, 4, 0, 0);
        softIs("just too far from row 4", x, 0, 0, 11);
        Histories.bar(x, 5, 0, 0);
        softIs("one row too few: 27 on the last one", x, 27, 0, 0);
        PaneThread hard = new PaneThread();
        Histories.hardest(hard);
        softIs("the hardest pane", hard, 405, 0, 0);
        PaneThread right = new PaneThread();
        Histories.bar(right, 1, 11, 0);
        softIs("the last column, begun at the least that reaches it", right, 0, 10, 11);
        Histories.bar(right, 2, 0, 0);
        softIs("no WAY around the edge", right, 27, 0, 0);
        PaneThread left = new PaneThread();
        Histories.bar(left, 1, 1, 0);
        Histories.bar(left, 2, -1, 0);
        Histories.dirty(left, 24, 1, 25, 1, 26, 1);
        softIs("like ones: STRAIGHT", left, 3, 0, 1);
        left.dirt(25, 2);
        softIs("like ones: LEFT ahead of RIGHT", left, 3, 0, 0);
        left.dirt(24, 2);
        softIs("RIGHT, as it is softer", left, 3, 0, 2);

        PaneThread twice = new PaneThread();
        Histories.bar(twice, 2, 4, 8);
        Histories.bar(twice, 9, 6, 7);
        softIs("two HOLDS make a sum", twice, 45, 2, 6);
        Histories.bar(twice, 9, -1, 0);
        Histories.bar(twice, 2, -1, 0);
        softIs("the same two anywhere", twice, 54, 0, 0);

        b.of(28, "BEYOND.");
        b.bounds("soft(what)", 0, 2, (y, v) -> y.soft(v));
    }

    private void softIs(String label, PaneThread x, int sum, int begin, int end) {
        b.due(label + ", sum", x.soft(0), sum);
        b.due(label + ", begin", x.soft(1), begin);
        b.due(label + ", end", x.soft(2), end);
    }

    private void need() {
        b.of(29, "The least number such that there is a WAY on which no HOLD (behind row 0) is more.");
        PaneThread x = new PaneThread();
        b.due("nothing holds", x.need(), 0);
        Histories.bar(x, 0, -1, 0);
        b.due("row 0 doesn't count", x.need(), 0);
        Histories.bar(x, 15, -1, 0);
        b.due("the last row counts, the most of all", x.need(), 27);
        x.dirt(191, 1);
        b.due("the last CELL", x.need(), 3);
        Histories.bar(x, 9, 5, 1);
        b.due("as much twice is no more", x.need(), 3);
        x.dirt(191, 9);
        Histories.bar(x, 9, -1, 0);
        b.due("the most twice is no more", x.need(), 27);
        x.clean(9);
        x.dirt(191, 1);
        Histories.bar(x, 4, 0, 0);
        b.due("11 rows for 11 columns", x.need(), 3);
        Histories.bar(x, 5, 0, 0);
        b.due("10 rows for 11 columns", x.need(), 27);
        x.finger(0);
        b.due("99 WET lets 9 go", x.need(), 18);
        PaneThread edge = new PaneThread();
        Histories.bar(edge, 1, 11, 0);
        Histories.bar(edge, 2, 0, 0);
        b.due("no WAY around the edge", edge.need(), 27);
        edge.set(0, 9);
        b.due("LEAN doesn't count", edge.need(), 27);
    }

    private void open() {
        b.of(30, "How many of the CELLS of a row a DROP with WATER could go to.");
        PaneThread x = new PaneThread();
        int[] rows = {0, 15};
        for (int row : rows) {
            b.due("all of a clean row", x.open(row, 1), 12);
            Histories.bar(x, row, -1, 0);
            b.due("none", x.open(row, 1), 0);
            b.due("none with one too little", x.open(row, 23), 0);
            b.due("all with just as much", x.open(row, 24), 12);
            b.due("all with the most", x.open(row, 99), 12);
            x.dirt(12 * row, 0);
            b.due("the first alone", x.open(row, 1), 1);
            Histories.bar(x, row, 11, 0);
            b.due("the last alone", x.open(row, 1), 1);
        }
        b.due("the row below row 0 is another", x.open(1, 1), 12);
        b.due("the row above row 15 is another", x.open(14, 1), 12);
        x.set(0, 0);
        b.due("LEAN 0", x.open(0, 26), 1);
        b.due("LEAN 0, just as much", x.open(0, 27), 12);
        x.set(0, 9);
        b.due("LEAN 9", x.open(0, 17), 1);
        b.due("LEAN 9, just as much", x.open(0, 18), 12);

        b.of(30, "BEYOND.");
        b.bounds("open(row, 5)", 0, 15, (y, v) -> y.open(v, 5));
        b.bounds("open(0, water)", 1, 99, (y, v) -> y.open(0, v));
        b.bounds("open(15, water)", 1, 99, (y, v) -> y.open(15, v));
    }

    private void seed() {
        b.of(31, "z becomes v: what it was.");
        PaneThread x = new PaneThread();
        int[] ends = {0, Integer.MAX_VALUE, Integer.MIN_VALUE, -1, -1000001, -1000007, 1};
        int was = 1;
        for (int v : ends) {
            b.due("seed(" + v + ")", x.seed(v), was);
            b.due("z", x.count(6), v);
            was = v;
        }
        b.due("no finding, though one looked so", x.status(-1), 0);
    }
}
