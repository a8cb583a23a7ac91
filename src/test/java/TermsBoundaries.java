import java.util.function.Consumer;

/** Boundary cases of the terms: findings, the pane, drops' numbers, paths, ways, draws, spots, sheets. */
final class TermsBoundaries {
    private static final Consumer<PaneThread> BUSY = Histories::busy;
    private static final Consumer<PaneThread> EIGHT = Histories::eightDrops;

    private final Boundaries b;

    TermsBoundaries(Boundaries b) {
        this.b = b;
    }

    void all() {
        findings();
        orderOfFindings();
        quotientsAndSets();
        pane();
        settings();
        holds();
        dropNumbers();
        kinds();
        path();
        pathAsThingsAre();
        way();
        draws();
        spotsAndSheets();
    }

    private void findings() {
        b.ofTerms("FINDINGS are answers below -1000000: LOW is -1000001; LOW BEYOND, LOW - 1 FULL, LOW - 2 KIND,"
                + " LOW - 3 NONE, LOW - 4 STATE, LOW - 5 MISSING, LOW - 6 SIZE.");
        PaneThread x = new PaneThread();
        for (int i = 0; i < 8; i++) {
            x.drop(2, i, 9);
        }
        x.hold(1, 0);
        b.due("BEYOND", x.tick(0), -1000001);
        b.due("FULL", x.drop(0, 0, 1), -1000002);
        b.due("KIND", x.as(1, 7), -1000003);
        b.due("NONE", x.undo(), -1000004);
        b.due("MISSING", x.write(3, 0, 0), -1000006);
        b.due("SIZE", x.sheet(0, 8, -1), -1000007);
        b.due("STATE, which no act tells", x.status(4), 0);
        int[] due = {1, 1, 1, 1, 0, 1, 1};
        for (int which = 0; which < 7; which++) {
            b.due("counted, which " + which, x.status(which), due[which]);
        }
        b.due("the least answer that is no finding but z: a FAULT", Checks.programFrom(x, " ".repeat(100)), -101);
    }

    private void orderOfFindings() {
        b.ofTerms("Each act tells its findings in the order in which they are asked (that of its words);"
                + " one that answers a finding changes nothing but status().");
        b.refused("drop: BEYOND ahead of FULL", EIGHT, x -> x.drop(0, 0, 100), Checks.BEYOND);
        b.refused("dropOf: BEYOND ahead of NONE", BUSY, x -> x.dropOf(7, 4), Checks.BEYOND);
        b.refused("pour: BEYOND ahead of NONE", BUSY, x -> x.pour(7, 0), Checks.BEYOND);
        b.refused("feed: BEYOND ahead of FULL", Histories::fullTape, x -> x.feed(0, 5), Checks.BEYOND);
        b.refused("program: FULL ahead of a FAULT", Histories::sixPrograms, x -> x.program(), Checks.FULL);
        b.refused("along: BEYOND ahead of NONE", BUSY, x -> x.along(1, 5, 1, 65), Checks.BEYOND);
        b.refused("soonest: BEYOND ahead of NONE", BUSY, x -> x.soonest(1, 12, 1), Checks.BEYOND);
        b.refused("meet: BEYOND ahead of NONE", BUSY, x -> x.meet(1, 4, 4, 1), Checks.BEYOND);
        b.refused("hold: BEYOND ahead of NONE", BUSY, x -> x.hold(10, 7), Checks.BEYOND);
        b.refused("as: BEYOND ahead of MISSING", BUSY, x -> x.as(5, 8), Checks.BEYOND);
        b.refused("as: BEYOND ahead of KIND", BUSY, x -> x.as(1, 8), Checks.BEYOND);
        b.refused("sheet: BEYOND ahead of SIZE", BUSY, x -> x.sheet(0, 7, -1), Checks.BEYOND);
        b.refused("write: BEYOND ahead of MISSING", BUSY, x -> x.write(4, 0, 0), Checks.BEYOND);
        b.refused("write: MISSING ahead of BEYOND", BUSY, x -> x.write(3, 40, 0), Checks.MISSING);
        b.refused("copy: BEYOND ahead of MISSING", BUSY, x -> x.copy(3, 0, 4, 0, 0), Checks.BEYOND);
        b.refused("copy: MISSING ahead of KIND", BUSY, x -> x.copy(1, 0, 3, 0, 0), Checks.MISSING);
        b.refused("copy: KIND ahead of BEYOND", BUSY, x -> x.copy(0, 0, 1, 0, 41), Checks.KIND);
        b.refused("load: MISSING ahead of BEYOND", BUSY, x -> x.load(3, 192), Checks.MISSING);
        b.refused("judge: MISSING ahead of BEYOND", BUSY, x -> x.judge(3, 8), Checks.MISSING);
        Consumer<PaneThread> lasting = x -> {
            Histories.busy(x);
            x.set(2, 0);
            x.finger(0);
        };
        b.refused("fades: BEYOND ahead of NONE", lasting, x -> x.fades(192), Checks.BEYOND);
    }

    private void quotientsAndSets() {
        b.ofTerms("Quotients are cut.");
        int[][] wets = {{1, 27}, {9, 27}, {10, 26}, {19, 26}, {20, 25}, {89, 19}, {90, 18}, {99, 18}};
        for (int[] w : wets) {
            PaneThread x = new PaneThread();
            Histories.wetTo(x, 0, w[0]);
            x.dirt(0, 9);
            b.due("HOLD of DIRT 9 and WET " + w[0], x.cellOf(0, 2), w[1]);
        }

        b.ofTerms("Sets are told as bits; of several that would do the least counts, where nothing else is told.");
        PaneThread x = new PaneThread();
        b.due("no bit", x.ways(1, 1), 0);
        b.due("the lowest bit", x.basin(2, 1, 0), 1);
        b.due("the highest bit", x.basin(2, 1, 11), 2048);
        b.due("all bits", x.ways(2, 1), 4095);
        b.due("the least LEAN", x.soonest(2, 0, 1), 0);
        b.due("the least column", x.soft(1), 0);
        b.due("the least number", x.drop(0, 0, 1), 0);
        x.drop(0, 0, 1);
        b.due("the least number on a CELL", x.cellOf(0, 3), 0);
    }

    private void pane() {
        b.ofTerms("THE PANE has 16 rows (0 the uppermost) of 12 columns (0 the leftmost): CELLS 0 to 191 by rows"
                + " (12 times the row, and the column); each has DIRT (0 to 9) and WET (0 to 99), both 0 at first.");
        for (int row = 0; row < 16; row += 15) {
            PaneThread x = new PaneThread();
            x.dirt(12 * row, 9);
            x.dirt(12 * row + 11, 9);
            b.due("two CELLS of row " + row, x.clean(row), 2);
            b.due("no others", x.count(3), 0);
        }
        for (int column = 0; column < 12; column += 11) {
            PaneThread x = new PaneThread();
            x.finger(column);
            b.due("the uppermost CELL of column " + column, x.cellOf(column, 1), 99);
            b.due("the lowest CELL of column " + column, x.cellOf(180 + column, 1), 99);
        }
        PaneThread x = new PaneThread();
        b.due("CELL 191 is there", x.dirt(191, 9), 0);
        b.due("CELL 192 isn't", x.dirt(192, 0), Checks.BEYOND);
        b.due("CELL -1 isn't", x.dirt(-1, 0), Checks.BEYOND);
        b.due("row 16 isn't", x.clean(16), Checks.BEYOND);
        b.due("column 12 isn't", x.finger(12), Checks.BEYOND);
        b.due("DIRT 10 isn't", x.dirt(191, 10), Checks.BEYOND);
        b.due("DIRT -1 isn't", x.dirt(191, -1), Checks.BEYOND);
        x.finger(3);
        x.finger(3);
        b.due("WET 99 at most", x.cellOf(3, 1), 99);
        x.set(2, 9);
        x.tick(50);
        b.due("WET 0 at least", x.cellOf(3, 1), 0);
    }

    private void settings() {
        b.ofTerms("LEAN (0 to 9; 3 at first), WIND (-20 to 20; 0 at first), FADE (0 to 9; 1 at first) are told.");
        PaneThread x = new PaneThread();
        int[][] settings = {{3, 0, 9}, {0, -20, 20}, {1, 0, 9}};
        for (int what = 0; what < 3; what++) {
            int[] s = settings[what];
            b.due("at first, " + what, x.set(what, s[1]), s[0]);
            b.due("below, " + what, x.set(what, s[1] - 1), Checks.BEYOND);
            b.due("the least, " + what, x.set(what, s[2]), s[1]);
            b.due("above, " + what, x.set(what, s[2] + 1), Checks.BEYOND);
            b.due("the most, " + what, x.set(what, s[2]), s[2]);
        }
    }

    private void holds() {
        b.ofTerms("HOLD of a CELL: 3 times its DIRT less WET by 10 (cut), 0 at least.");
        int[][] cases = {
            {0, 0, 0}, {9, 0, 27}, {9, 99, 18}, {0, 99, 0}, {1, 29, 1}, {1, 30, 0}, {1, 40, 0}, {3, 89, 1}, {3, 90, 0},
            {3, 99, 0}, {4, 99, 3}, {1, 9, 3}, {1, 10, 2},
        };
        for (int[] c : cases) {
            PaneThread x = new PaneThread();
            Histories.wetTo(x, 11, c[1]);
            x.dirt(191, c[0]);
            b.due("DIRT " + c[0] + ", WET " + c[1], x.cellOf(191, 2), c[2]);
        }
    }

    private void dropNumbers() {
        b.ofTerms("DROPS, 8 at most, have numbers 0 to 7 (a new one the least that is free), each on a CELL, with WATER"
                + " (1 to 99), STEPS that it made (0 at first), of KINDS: 0 GOING; 1 DROPPING, 2 STRAIGHT, 4 SWINGING"
                + " under GOING; 3 STANDING, 6 PLAITED under STRAIGHT; 5 BROKEN under SWINGING; 7 AGAIN under DROPPING.");
        PaneThread x = new PaneThread();
        for (int i = 0; i < 8; i++) {
            // Numbers 0, 4 and 7 are gone behind one tick.
            boolean isShort = i == 0 || i == 4 || i == 7;
            b.due("a new one", x.drop(isShort ? 1 : 2, i, isShort ? 1 : 9), i);
            b.due("its STEPS", x.dropOf(i, 3), 0);
        }
        b.due("no ninth", x.drop(0, 0, 1), Checks.FULL);
        b.due("five are left", x.tick(1), 5);
        b.due("the least that is free", x.drop(2, 11, 99), 0);
        b.due("the next", x.drop(2, 11, 1), 4);
        b.due("the last", x.drop(2, 10, 1), 7);
        b.due("STEPS from 0 on", x.dropOf(0, 3), 0);
        b.due("no ninth again", x.drop(2, 10, 1), Checks.FULL);
        b.due("WATER 1 at least", new PaneThread().drop(0, 0, 0), Checks.BEYOND);
        b.due("WATER 99 at most", new PaneThread().drop(0, 0, 100), Checks.BEYOND);
    }

    private void kinds() {
        int[] above = {-1, 0, 0, 2, 0, 4, 2, 1};
        PaneThread x = new PaneThread();
        for (int kind = 0; kind < 8; kind++) {
            x.drop(kind, kind, 9);
            x.hold(kind, kind);
        }
        for (int kind = 0; kind < 8; kind++) {
            boolean[] isUnder = new boolean[8];
            for (int k = kind; k >= 0; k = above[k]) {
                isUnder[k] = true;
            }
            for (int k = 0; k < 8; k++) {
                b.due("KIND " + kind + " as " + k, x.as(kind, k), isUnder[k] ? kind : Checks.KIND);
            }
        }
        b.due("there is no KIND 8", x.as(0, 8), Checks.BEYOND);
        b.due("nor -1", x.as(0, -1), Checks.BEYOND);
    }

    private void ofPath() {
        b.ofTerms("THE PATH of a KIND from a column with WATER: a DROP of it alone, as things are now, from row 0 of that"
                + " column on (that CELL holds nothing), going as above, without WIND, wetting and fading, till it goes OUT"
                + " (that is a STEP, too), is HELD or GONE, or has made 64 STEPS.");
    }

    private void path() {
        ofPath();
        PaneThread x = new PaneThread();
        b.due("OUT is a STEP, too", x.path(0, 0, 1, 1), 16);
        b.due("15 STEPS to where it is GONE", x.path(1, 0, 15, 1), 15);
        b.due("GONE on the last row isn't OUT", x.path(1, 0, 15, 0), -1);
        x.dirt(0, 9);
        x.set(0, 0);
        b.due("the CELL where it begins holds nothing", x.path(2, 0, 1, 0), 0);
        b.due("in the last column, too", x.path(2, 11, 1, 0), 11);
        Histories.bar(x, 1, -1, 0);
        b.due("HELD where it begins", x.path(2, 0, 26, 1), 0);
        b.due("just not HELD", x.path(2, 0, 27, 1), 16);
        b.due("64 STEPS and no more", x.path(3, 5, 26, 1), 64);
        b.due("behind an even number it is where it began", x.path(3, 5, 26, 2), 5);
        b.due("no OUT behind 64", x.path(3, 5, 26, 0), -1);
        PaneThread zigzag = new PaneThread();
        // 8 times aside, 15 times down, and out. No more: what turned it aside stands beside it on the next row.
        for (int i = 0; i < 8; i++) {
            zigzag.dirt(12 * (2 * i + 1) + (i % 2 == 0 ? 4 : 3), 9);
        }
        b.due("the most STEPS of one that goes OUT", zigzag.path(3, 4, 5, 1), 24);
        b.due("where it goes OUT", zigzag.path(3, 4, 5, 0), 4);
    }

    private void pathAsThingsAre() {
        ofPath();
        PaneThread wind = new PaneThread();
        wind.set(1, 20);
        b.due("without WIND", wind.path(0, 5, 1, 0), 5);
        PaneThread alone = new PaneThread();
        alone.drop(2, 5, 99);
        alone.tick(3);
        b.due("alone: no WATER of others", alone.path(2, 5, 1, 3), 1);
        b.due("DROPS stay", alone.count(0), 1);
        b.due("their CELLS too", alone.dropOf(0, 1), 41);
        PaneThread dry = new PaneThread();
        dry.path(0, 5, 9, 0);
        b.due("without wetting", dry.count(2), 0);
        b.due("no TICKS", dry.count(7), 0);
        Histories.dirty(dry, 6, 4, 17, 9, 18, 9);
        b.due("to and fro where it can aside", dry.path(3, 5, 9, 1), 64);
        b.due("without wetting there, too", dry.count(2), 0);
        b.due("HELD where it can't aside", dry.path(3, 5, 8, 1), 0);
        PaneThread fading = new PaneThread();
        Histories.wetTo(fading, 5, 10);
        fading.set(2, 9);
        fading.dirt(185, 5);
        b.due("without fading: 1 less for 10 WET", fading.path(2, 5, 11, 0), 5);
        b.due("and no more", fading.path(2, 5, 10, 0), -1);
        b.due("it stays WET", fading.cellOf(185, 1), 10);
        PaneThread again = new PaneThread();
        again.dirt(17, 1);
        again.finger(5);
        b.due("AGAIN, as things are now", again.path(7, 4, 20, 0), 5);
        again.set(2, 9);
        again.tick(11);
        b.due("AGAIN, nothing being WET now", again.path(7, 4, 20, 0), 4);
    }

    private void way() {
        b.ofTerms("A WAY goes from any CELL of row 0 row by row to the last one, STRAIGHT, LEFT or RIGHT DOWN.");
        for (int column = 0; column < 12; column++) {
            PaneThread x = new PaneThread();
            Histories.bar(x, 1, column, 0);
            Histories.bar(x, 15, column, 0);
            b.due("a gap of two rows, column " + column, x.soft(0), 0);
            b.due("its begin", x.soft(1), Math.max(0, column - 1));
            b.due("its end", x.soft(2), column);
            b.due("no push is needed", x.need(), 0);
        }
        PaneThread right = new PaneThread();
        Histories.bar(right, 7, 0, 0);
        Histories.bar(right, 8, 1, 0);
        b.due("RIGHT DOWN", right.need(), 0);
        Histories.bar(right, 8, 2, 0);
        b.due("not two columns at once", right.need(), 27);
        Histories.bar(right, 8, 11, 0);
        b.due("not around the left edge", right.need(), 27);
        PaneThread left = new PaneThread();
        Histories.bar(left, 7, 11, 0);
        Histories.bar(left, 8, 10, 0);
        b.due("LEFT DOWN", left.soft(0), 0);
        Histories.bar(left, 8, 9, 0);
        b.due("not two columns at once to the left", left.soft(0), 27);
        Histories.bar(left, 8, 0, 0);
        b.due("not around the right edge", left.soft(0), 27);
    }

    private void draws() {
        b.ofTerms("DRAWS: z is told (1 at first); each makes it z * 1103515245 + 12345 (an int), and gives z >>> 8.");
        PaneThread x = new PaneThread();
        b.due("at first", x.count(6), 1);
        int[] seeds = {1, 0, -1, 2, Integer.MAX_VALUE, Integer.MIN_VALUE, -1000001, 12345};
        for (int seed : seeds) {
            x.seed(seed);
            long first = wrapped(seed);
            long second = wrapped((int) first);
            int cell = (int) ((first & 0xFFFFFFFFL) / 256 % 192);
            int dirt = (int) ((second & 0xFFFFFFFFL) / 256 % 10);
            x.dirt(cell, 0);
            x.scatter(1);
            b.due("z behind two draws from " + seed, x.count(6), (int) second);
            b.due("what they give", x.cellOf(cell, 0), dirt);
        }
    }

    /** One draw's z, reckoned without an overflow: the product is below 2 to the 62nd. */
    private static long wrapped(int z) {
        long whole = Math.floorMod(z * 1103515245L + 12345L, 1L << 32);
        return whole >= 1L << 31 ? whole - (1L << 32) : whole;
    }

    private void spotsAndSheets() {
        b.ofTerms("SPOTS 0 to 9 hold a DROP (by its number; nothing, if there is no such one then) or nothing (at first).");
        PaneThread x = new PaneThread();
        for (int spot = 0; spot < 10; spot++) {
            b.due("nothing at first, " + spot, x.as(spot, 0), Checks.MISSING);
        }
        b.due("no SPOT -1", x.as(-1, 0), Checks.BEYOND);
        b.due("no SPOT 10", x.as(10, 0), Checks.BEYOND);
        x.drop(1, 5, 1);
        x.hold(0, 0);
        x.hold(9, 0);
        x.tick(1);
        b.due("nothing, as it is GONE", x.as(0, 1), Checks.MISSING);
        x.drop(2, 11, 9);
        b.due("by its number: the new one", x.as(9, 2), 0);
        b.due("of its own KIND", x.as(9, 1), Checks.KIND);

        b.ofTerms("SHEETS 0 to 3: rows of at most 40 numbers of 8, 16 or 32 bits, or MISSING (at first).");
        for (int s = 0; s < 4; s++) {
            PaneThread y = new PaneThread();
            b.due("MISSING at first", y.load(s, 0), Checks.MISSING);
            b.due("not 41", y.sheet(s, 8, 41), Checks.BEYOND);
            b.due("still MISSING", y.load(s, 0), Checks.MISSING);
            b.due("40", y.sheet(s, 8, 40), 40);
            b.due("so many", y.load(s, 0), 40);
        }
        b.due("no sheet -1", x.sheet(-1, 8, 1), Checks.BEYOND);
        b.due("no sheet 4", x.sheet(4, 8, 1), Checks.BEYOND);
    }
}
