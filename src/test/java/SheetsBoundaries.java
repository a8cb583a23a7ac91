import java.util.function.Consumer;

/** Boundary cases of promises 32 to 43: spots, sheets, images, counts. */
final class SheetsBoundaries {
    private static final Consumer<PaneThread> BUSY = Histories::busy;
    private static final Consumer<PaneThread> EIGHT = Histories::eightDrops;
    private static final Consumer<PaneThread> FOUR_SHEETS = x -> {
        Histories.busy(x);
        x.sheet(2, 8, 5);
        x.sheet(3, 8, 5);
    };
    private static final int MIN = Integer.MIN_VALUE;
    private static final int MAX = Integer.MAX_VALUE;

    private final Boundaries b;

    SheetsBoundaries(Boundaries b) {
        this.b = b;
    }

    void all() {
        hold();
        as();
        sheet();
        write();
        copy();
        copyFindings();
        load();
        judge();
        image();
        undo();
        tear();
        count();
        status();
    }

    private static void numbers(PaneThread x, int s, int bits, int... numbers) {
        x.sheet(s, bits, numbers.length);
        for (int i = 0; i < numbers.length; i++) {
            x.write(s, i, numbers[i]);
        }
    }

    private void hold() {
        b.of(32, "A SPOT holds DROP k (0 to 7), or nothing (-1): 1.");
        PaneThread x = new PaneThread();
        for (int i = 0; i < 8; i++) {
            x.drop(0, i, 9);
        }
        int[] ends = {0, 9};
        for (int spot : ends) {
            b.due("the last DROP", x.hold(spot, 7), 1);
            b.due("is held", x.as(spot, 0), 7);
            b.due("the first DROP", x.hold(spot, 0), 1);
            b.due("is held instead", x.as(spot, 0), 0);
            b.due("nothing", x.hold(spot, -1), 1);
            b.due("is held", x.as(spot, 0), Checks.MISSING);
            b.due("nothing instead of nothing", x.hold(spot, -1), 1);
        }
        x.hold(0, 3);
        x.hold(9, 3);
        b.due("one DROP on two SPOTS", x.as(0, 0), x.as(9, 0));
        b.due("the SPOT beside holds nothing", x.as(1, 0), Checks.MISSING);
        b.due("nothing, with no DROPS", new PaneThread().hold(0, -1), 1);

        b.of(32, "BEYOND.");
        b.bounds("hold(spot, 0)", 0, 9, (y, v) -> y.hold(v, 0));
        b.bounds("hold(spot, -1)", 0, 9, (y, v) -> y.hold(v, -1));
        b.bounds("hold(1, drop)", -1, 7, EIGHT, (y, v) -> y.hold(1, v));
        b.refused("spot, with no such DROP", BUSY, y -> y.hold(10, 7), Checks.BEYOND);
        b.refused("a number that no DROP can have", BUSY, y -> y.hold(1, 8), Checks.BEYOND);

        b.of(32, "NONE: there is no such DROP.");
        b.refused("a number that is free; the SPOT holds what it held", BUSY, y -> y.hold(1, 7), Checks.NONE);
        PaneThread none = new PaneThread();
        b.due("no DROPS", none.hold(0, 0), Checks.NONE);
        none.drop(1, 5, 1);
        none.tick(1);
        b.due("GONE", none.hold(0, 0), Checks.NONE);
        none.drop(2, 5, 1);
        none.tick(16);
        b.due("OUT", none.hold(0, 0), Checks.NONE);
    }

    private void as() {
        b.of(33, "What a SPOT holds as one of a kind (0 to 7): the number of the DROP.");
        PaneThread x = new PaneThread();
        for (int kind = 0; kind < 8; kind++) {
            x.drop(kind, kind, 9);
            x.hold(kind == 7 ? 9 : kind, kind);
        }
        b.due("the first of all", x.as(0, 0), 0);
        b.due("the last of all", x.as(9, 7), 7);
        b.due("two KINDS above", x.as(9, 0), 7);
        b.due("one KIND above", x.as(9, 1), 7);

        b.of(33, "BEYOND.");
        b.bounds("as(spot, 0)", 0, 9, (y, v) -> y.as(v, 0));
        b.bounds("as(1, kind)", 0, 7, (y, v) -> y.as(1, v));
        b.bounds("as(5, kind), which holds nothing", 0, 7, (y, v) -> y.as(5, v));

        b.of(33, "MISSING: it holds nothing (also, if the DROP is GONE, OUT).");
        b.refused("never held", BUSY, y -> y.as(5, 0), Checks.MISSING);
        b.refused("never held, of any KIND", BUSY, y -> y.as(5, 7), Checks.MISSING);
        PaneThread lost = new PaneThread();
        lost.drop(1, 5, 1);
        lost.drop(2, 8, 9);
        lost.drop(0, 8, 9);
        for (int drop = 0; drop < 3; drop++) {
            lost.hold(drop, drop);
        }
        b.due("not yet GONE", lost.as(0, 1), 0);
        lost.tick(1);
        b.due("GONE", lost.as(0, 1), Checks.MISSING);
        b.due("GONE, of another KIND", lost.as(0, 2), Checks.MISSING);
        b.due("GONE, as it joined another", lost.as(2, 0), Checks.MISSING);
        lost.tick(14);
        b.due("not yet OUT", lost.as(1, 2), 1);
        lost.tick(1);
        b.due("OUT", lost.as(1, 2), Checks.MISSING);
        b.due("counted as MISSING", lost.status(5), 4);

        b.of(33, "KIND: it isn't of that kind, nor of one under it.");
        b.refused("one beside", BUSY, y -> y.as(1, 4), Checks.KIND);
        b.refused("one under", BUSY, y -> y.as(1, 3), Checks.KIND);
        b.due("GOING isn't the last", x.as(0, 7), Checks.KIND);
        b.due("AGAIN isn't PLAITED", x.as(9, 6), Checks.KIND);
        b.due("AGAIN isn't STRAIGHT", x.as(9, 2), Checks.KIND);
        b.due("STANDING isn't PLAITED", x.as(3, 6), Checks.KIND);
        b.due("PLAITED isn't STANDING", x.as(6, 3), Checks.KIND);
        b.due("SWINGING isn't BROKEN", x.as(4, 5), Checks.KIND);
        b.due("BROKEN is SWINGING", x.as(5, 4), 5);
        b.due("DROPPING isn't AGAIN", x.as(1, 7), Checks.KIND);
    }

    private void sheet() {
        b.of(34, "A sheet has n numbers, all 0, of 8, 16 or 32 bits; bits 0: it is MISSING: n (0 if it is MISSING).");
        int[] widths = {8, 16, 32};
        int[] ends = {0, 3};
        PaneThread x = new PaneThread();
        for (int s : ends) {
            for (int bits : widths) {
                b.due("the most", x.sheet(s, bits, 40), 40);
                b.due("the last of them", x.write(s, 39, 9), 1);
                b.due("no more", x.write(s, 40, 9), Checks.BEYOND);
                b.due("the most again", x.sheet(s, bits, 40), 40);
                b.due("all come", x.load(s, 100), 40);
                b.due("the last is 0 again", x.cellOf(139, 0), 0);
                b.due("none", x.sheet(s, bits, 0), 0);
                b.due("no number 0", x.write(s, 0, 9), Checks.BEYOND);
                b.due("one", x.sheet(s, bits, 1), 1);
                b.due("number 0", x.write(s, 0, 9), 1);
                b.due("no number 1", x.write(s, 1, 9), Checks.BEYOND);
                b.due("MISSING", x.sheet(s, 0, 40), 0);
                b.due("it is", x.write(s, 0, 9), Checks.MISSING);
                b.due("MISSING again, n 0", x.sheet(s, 0, 0), 0);
            }
        }
        numbers(x, 1, 8, 5, 5, 5);
        x.sheet(1, 8, 1);
        x.sheet(1, 8, 3);
        x.dirt(102, 7);
        x.load(1, 100);
        b.due("all 0, fewer having been there", x.cellOf(102, 0), 0);
        numbers(x, 1, 8, 5, 5, 5);
        x.sheet(1, 0, 3);
        x.sheet(1, 8, 3);
        x.dirt(102, 7);
        x.load(1, 100);
        b.due("all 0, having been MISSING", x.cellOf(102, 0), 0);

        b.of(34, "BEYOND: no such sheet, other bits.");
        b.bounds("sheet(s, 8, 5)", 0, 3, (y, v) -> y.sheet(v, 8, 5));
        b.bounds("sheet(s, 0, 5)", 0, 3, (y, v) -> y.sheet(v, 0, 5));
        int[] others = {MIN, -8, -1, 1, 7, 9, 15, 17, 24, 31, 33, 64, 128, MAX};
        for (int bits : others) {
            b.refused("bits " + bits, BUSY, y -> y.sheet(0, bits, 5), Checks.BEYOND);
        }
        b.refused("no such sheet ahead of SIZE", BUSY, y -> y.sheet(4, 8, -1), Checks.BEYOND);
        b.refused("other bits ahead of SIZE", BUSY, y -> y.sheet(0, 64, -1), Checks.BEYOND);

        b.of(34, "SIZE: n is below 0 (also with bits 0).");
        int[] all = {0, 8, 16, 32};
        for (int bits : all) {
            b.refused("n -1, bits " + bits, BUSY, y -> y.sheet(0, bits, -1), Checks.SIZE);
            b.refused("n far below, bits " + bits, BUSY, y -> y.sheet(1, bits, MIN), Checks.SIZE);
        }

        b.of(34, "BEYOND: n is above 40.");
        for (int bits : all) {
            b.refused("n 41, bits " + bits, BUSY, y -> y.sheet(0, bits, 41), Checks.BEYOND);
            b.refused("n far above, bits " + bits, BUSY, y -> y.sheet(1, bits, MAX), Checks.BEYOND);
        }
    }

    private void write() {
        b.of(35, "Number i of a sheet becomes v (its lowest bits): 1.");
        // A number is seen by the dirt that it becomes: only 0 to 9 come.
        int[][] cases = {
            {8, 256 + 9, 9}, {8, 65536 + 9, 9}, {8, MIN + 9, 9}, {8, MIN, 0}, {8, 255, -1}, {8, 128, -1}, {8, -1, -1},
            {8, MAX, -1}, {8, -256, 0}, {8, -247, 9}, {8, 10, -1}, {8, 266, -1},
            {16, 65536 + 9, 9}, {16, MIN + 9, 9}, {16, 256 + 9, -1}, {16, 65535, -1}, {16, 32768, -1}, {16, MAX, -1},
            {16, -65536, 0}, {16, -65527, 9},
            {32, 9, 9}, {32, 0, 0}, {32, 65536 + 9, -1}, {32, MIN + 9, -1}, {32, MIN, -1}, {32, MAX, -1}, {32, -1, -1},
        };
        for (int[] c : cases) {
            PaneThread x = new PaneThread();
            x.sheet(0, c[0], 1);
            b.due(c[0] + " bits of " + c[1], x.write(0, 0, c[1]), 1);
            b.due("came", x.load(0, 50), c[2] < 0 ? 0 : 1);
            b.due("DIRT", x.cellOf(50, 0), Math.max(0, c[2]));
        }
        PaneThread x = new PaneThread();
        x.sheet(3, 8, 40);
        b.due("the first", x.write(3, 0, 4), 1);
        b.due("the last", x.write(3, 39, 5), 1);
        x.load(3, 100);
        b.due("the first came", x.cellOf(100, 0), 4);
        b.due("the last came", x.cellOf(139, 0), 5);
        b.due("no others", x.count(3), 2);

        b.of(35, "BEYOND: no such sheet.");
        b.bounds("write(s, 0, 5)", 0, 3, FOUR_SHEETS, (y, v) -> y.write(v, 0, 5));
        b.refused("sheet -1, no such number", BUSY, y -> y.write(-1, 99, 5), Checks.BEYOND);
        b.refused("sheet 4, no such number", BUSY, y -> y.write(4, 99, 5), Checks.BEYOND);

        b.of(35, "MISSING.");
        b.refused("number 0", BUSY, y -> y.write(3, 0, 5), Checks.MISSING);
        b.refused("ahead of no such number", BUSY, y -> y.write(3, 40, 5), Checks.MISSING);
        b.refused("ahead of a number below 0", BUSY, y -> y.write(3, -1, 5), Checks.MISSING);
        b.refused("made so", y -> {
            Histories.busy(y);
            y.sheet(0, 0, 3);
        }, y -> y.write(0, 0, 5), Checks.MISSING);

        b.of(35, "BEYOND: no such number.");
        b.bounds("write(0, i, 5), three numbers", 0, 2, (y, v) -> y.write(0, v, 5));
        b.bounds("write(1, i, 5), forty numbers", 0, 39, (y, v) -> y.write(1, v, 5));
        b.refused("write(2, 0, 5), none", BUSY, y -> y.write(2, 0, 5), Checks.BEYOND);
    }

    private void numbersAre(String label, PaneThread x, int s, int... due) {
        b.due(label + ", how many", x.load(s, 100), due.length);
        for (int i = 0; i < due.length; i++) {
            b.due(label + ", number " + i, x.cellOf(100 + i, 0), due[i]);
        }
    }

    private void copy() {
        b.of(36, "n numbers of a sheet from one on come to another one from one on (as they all were): n.");
        PaneThread x = new PaneThread();
        numbers(x, 0, 8, 1, 2, 3, 4);
        numbers(x, 3, 8, 9, 8, 7);
        b.due("none", x.copy(0, 0, 3, 0, 0), 0);
        b.due("none, behind the last of both", x.copy(0, 4, 3, 3, 0), 0);
        numbersAre("none came", x, 3, 9, 8, 7);
        b.due("to the last", x.copy(0, 3, 3, 2, 1), 1);
        numbersAre("to the last", x, 3, 9, 8, 4);
        b.due("to the first", x.copy(0, 0, 3, 0, 1), 1);
        numbersAre("to the first", x, 3, 1, 8, 4);
        b.due("as many as the other has", x.copy(0, 1, 3, 0, 3), 3);
        numbersAre("as many as the other has", x, 3, 2, 3, 4);
        b.due("up within one, as they were", x.copy(0, 0, 0, 1, 3), 3);
        numbersAre("up within one", x, 0, 1, 1, 2, 3);
        b.due("down within one, as they were", x.copy(0, 1, 0, 0, 3), 3);
        numbersAre("down within one", x, 0, 1, 2, 3, 3);
        b.due("onto itself", x.copy(0, 0, 0, 0, 4), 4);
        numbersAre("onto itself", x, 0, 1, 2, 3, 3);
        x.sheet(1, 8, 0);
        b.due("none of none", x.copy(1, 0, 1, 0, 0), 0);
        PaneThread most = new PaneThread();
        most.sheet(0, 32, 40);
        most.sheet(1, 32, 40);
        most.write(0, 0, 3);
        most.write(0, 39, 6);
        b.due("all forty", most.copy(0, 0, 1, 0, 40), 40);
        b.due("all forty came", most.load(1, 0), 40);
        b.due("the first of forty", most.cellOf(0, 0), 3);
        b.due("the last of forty", most.cellOf(39, 0), 6);
        int[] widths = {8, 16, 32};
        for (int bits : widths) {
            PaneThread y = new PaneThread();
            numbers(y, 0, bits, -1, 9);
            y.sheet(1, bits, 2);
            b.due("all bits, " + bits, y.copy(0, 0, 1, 0, 2), 2);
            b.due("a number below 0 stays none of 0 to 9", y.load(1, 0), 0);
        }
    }

    private static void threeSheets(PaneThread x) {
        Histories.busy(x);
        numbers(x, 0, 8, 1, 2, 3, 4, 5, 6);
        numbers(x, 1, 8, 1, 2, 3, 4);
        numbers(x, 2, 16, 1, 2, 3, 4, 5, 6);
    }

    private void refusedCopies(int finding, int[]... calls) {
        for (int[] c : calls) {
            b.refused("copy(" + c[0] + ", " + c[1] + ", " + c[2] + ", " + c[3] + ", " + c[4] + ")",
                    SheetsBoundaries::threeSheets, x -> x.copy(c[0], c[1], c[2], c[3], c[4]), finding);
        }
    }

    private void copyFindings() {
        b.of(36, "BEYOND: no such sheet (either).");
        refusedCopies(Checks.BEYOND, new int[][] {{-1, 0, 0, 0, 0}, {4, 0, 0, 0, 0}, {0, 0, -1, 0, 0}, {0, 0, 4, 0, 0},
            {4, 0, 3, 0, 0}, {3, 0, 4, 0, 0}, {MIN, 0, MAX, 0, 0}, {MAX, 0, MIN, 0, 0}, {4, 0, 2, -1, -1}});

        b.of(36, "MISSING: one is.");
        refusedCopies(Checks.MISSING, new int[][] {{3, 0, 0, 0, 0}, {0, 0, 3, 0, 0}, {3, 0, 3, 0, 0}, {3, 0, 2, 0, 0},
            {2, -1, 3, -1, -1}, {3, MAX, 0, MAX, MAX}});

        b.of(36, "KIND: they are not of as many bits.");
        refusedCopies(Checks.KIND, new int[][] {{0, 0, 2, 0, 0}, {2, 0, 0, 0, 0}, {0, 0, 2, 0, 6}, {0, -1, 2, 0, 1},
            {0, 0, 2, 0, 7}, {2, 0, 1, 0, MAX}});

        b.of(36, "BEYOND: one has not so many, or from, to or n is below 0.");
        refusedCopies(Checks.BEYOND, new int[][] {{0, 0, 0, 0, 7}, {0, 0, 1, 0, 5}, {1, 0, 0, 0, 5}, {0, 6, 1, 0, 1},
            {0, 0, 1, 4, 1}, {0, 3, 1, 0, 4}, {0, 0, 1, 1, 4}, {0, 7, 1, 0, 0}, {0, 0, 1, 5, 0}, {0, -1, 1, 0, 1},
            {0, 0, 1, -1, 1}, {0, 0, 1, 0, -1}, {0, -1, 1, 0, 0}, {0, 0, 1, -1, 0}, {0, 1, 1, 1, -1}});
        refusedCopies(Checks.BEYOND, new int[][] {{0, MAX, 1, 0, 1}, {0, 0, 1, MAX, 1}, {0, 0, 1, 0, MAX}, {0, 1, 1, 0, MAX},
            {0, 0, 1, 1, MAX}, {0, MAX, 1, MAX, MAX}, {0, MIN, 1, 0, 1}, {0, 0, 1, MIN, 1}, {0, 0, 1, 0, MIN},
            {0, MIN, 1, MIN, MIN}, {0, MIN, 1, 0, MAX}, {0, MAX, 1, 0, MIN}, {0, MAX, 1, MAX, 0}});
    }

    private void load() {
        b.of(37, "Numbers of a sheet, from its begin on, become DIRT of CELLS from one on: how many came.");
        PaneThread x = new PaneThread();
        x.sheet(0, 8, 0);
        b.due("none of none", x.load(0, 0), 0);
        b.due("none of none, to the last CELL", x.load(0, 191), 0);
        numbers(x, 1, 16, 9, 0, 9);
        x.dirt(1, 5);
        b.due("from the first CELL on", x.load(1, 0), 3);
        b.due("the most", x.cellOf(0, 0), 9);
        b.due("0 takes DIRT away", x.cellOf(1, 0), 0);
        b.due("the last of them", x.cellOf(2, 0), 9);
        b.due("no more", x.cellOf(3, 0), 0);
        b.due("to the last CELL, just so", x.load(1, 189), 3);
        b.due("the last CELL", x.cellOf(191, 0), 9);
        x.sheet(2, 32, 40);
        b.due("the most of them", x.load(2, 152), 40);
        b.due("all of them 0", x.cellOf(191, 0), 0);
        x.finger(0);
        x.load(1, 0);
        b.due("WET stays", x.cellOf(0, 1), 99);

        b.of(37, "It ends at the first that isn't 0 to 9, or for which there is no CELL.");
        int[] wrong = {10, -1, 255, 127, 128, MIN, MAX};
        for (int v : wrong) {
            for (int at = 0; at < 3; at++) {
                PaneThread y = new PaneThread();
                numbers(y, 0, 32, 9, 9, 9);
                y.write(0, at, v);
                b.due(v + " as number " + at, y.load(0, 60), at);
                b.due("so many have DIRT", y.count(3), at);
            }
        }
        PaneThread end = new PaneThread();
        numbers(end, 0, 8, 1, 2, 3);
        b.due("two CELLS", end.load(0, 190), 2);
        b.due("the last CELL", end.cellOf(191, 0), 2);
        b.due("none at the begin", end.cellOf(0, 0), 0);
        b.due("one CELL", end.load(0, 191), 1);
        b.due("the last CELL then", end.cellOf(191, 0), 1);
        end.write(0, 1, 10);
        b.due("one CELL, and 10 behind it", end.load(0, 191), 1);
        b.due("no finding", end.status(-1), 0);

        b.of(37, "BEYOND: no such sheet.");
        b.bounds("load(s, 0)", 0, 3, FOUR_SHEETS, (y, v) -> y.load(v, 0));

        b.of(37, "MISSING.");
        b.refused("sheet 3", BUSY, y -> y.load(3, 0), Checks.MISSING);
        b.refused("ahead of no such CELL", BUSY, y -> y.load(3, 192), Checks.MISSING);
        b.refused("ahead of a CELL below 0", BUSY, y -> y.load(3, -1), Checks.MISSING);

        b.of(37, "BEYOND: no such CELL.");
        b.bounds("load(0, cell)", 0, 191, (y, v) -> y.load(0, v));
        b.bounds("load(2, cell), no numbers", 0, 191, (y, v) -> y.load(2, v));
    }

    private void judge() {
        b.of(38, "THE READER: number i of a sheet is the column where a PATH of a KIND with 20 WATER is behind i STEPS"
                + " (it begins at the column that number 0 tells): 0 if all are; else 1 and the place of the first that"
                + " isn't (also, if the PATH has not so many STEPS, or is OUT).");
        PaneThread x = new PaneThread();
        numbers(x, 0, 8, 0);
        b.due("one number, the first column", x.judge(0, 0), 0);
        numbers(x, 0, 8, 11);
        b.due("one number, the last column", x.judge(0, 7), 0);
        numbers(x, 0, 16, 11, 11);
        b.due("right in 1", x.judge(0, 2), 0);
        numbers(x, 0, 32, 11, 10);
        b.due("wrong in 1", x.judge(0, 2), 2);
        numbers(x, 0, 32, 11, 12);
        b.due("no column in 1", x.judge(0, 2), 2);
        numbers(x, 0, 32, 11, -1);
        b.due("below 0 in 1", x.judge(0, 2), 2);
        numbers(x, 0, 8, 3, 3, 3, 3, 3, 3, 3, 3, 3, 3, 3, 3, 3, 3, 3, 3);
        b.due("to the last row", x.judge(0, 2), 0);
        numbers(x, 0, 8, 3, 3, 3, 3, 3, 3, 3, 3, 3, 3, 3, 3, 3, 3, 3, 3, 3);
        b.due("OUT", x.judge(0, 2), 17);
        b.due("OUT, but wrong ahead of it", x.judge(0, 4), 2);
        numbers(x, 0, 8, 3, 3, 3, 3, 3, 3, 3, 3, 3, 3, 3, 3, 3, 3, 3, 2);
        b.due("wrong on the last row", x.judge(0, 2), 16);
        x.sheet(0, 8, 40);
        b.due("forty numbers, all 0", x.judge(0, 2), 17);
        Histories.bar(x, 1, -1, 0);
        numbers(x, 0, 8, 0, 0);
        b.due("HELD at once", x.judge(0, 2), 2);
        x.sheet(0, 8, 40);
        for (int i = 0; i < 40; i++) {
            x.write(0, i, 3 + i % 2);
        }
        b.due("forty numbers of 64 STEPS", x.judge(0, 3), 0);
        x.write(0, 39, 3);
        b.due("the last of forty is wrong", x.judge(0, 3), 40);
        PaneThread water = new PaneThread();
        numbers(water, 0, 8, 5, 5);
        water.dirt(17, 7);
        b.due("20 WATER and LEAN 3 for 21", water.judge(0, 2), 0);
        water.dirt(17, 8);
        b.due("20 WATER and LEAN 3 for 24", water.judge(0, 2), 2);

        b.of(38, "BEYOND: no such sheet.");
        b.bounds("judge(s, 0)", 0, 3, FOUR_SHEETS, (y, v) -> y.judge(v, 0));

        b.of(38, "MISSING.");
        b.refused("sheet 3", BUSY, y -> y.judge(3, 0), Checks.MISSING);
        b.refused("ahead of kind", BUSY, y -> y.judge(3, 8), Checks.MISSING);
        b.refused("ahead of kind below 0", BUSY, y -> y.judge(3, -1), Checks.MISSING);

        b.of(38, "BEYOND: kind; there is no number 0, or it is no column.");
        b.bounds("judge(0, kind)", 0, 7, (y, v) -> y.judge(0, v));
        b.refused("no number 0", BUSY, y -> y.judge(2, 0), Checks.BEYOND);
        int[][] wrong = {{8, 12}, {8, -1}, {8, 127}, {8, 128}, {16, 12}, {16, -1}, {16, 256}, {16, 32768}, {32, 12},
            {32, -1}, {32, 256}, {32, 65536}, {32, MAX}, {32, MIN}};
        for (int[] w : wrong) {
            b.refused("number 0 is " + w[1] + " of " + w[0] + " bits", y -> {
                Histories.busy(y);
                numbers(y, 0, w[0], w[1], 5);
            }, y -> y.judge(0, 0), Checks.BEYOND);
        }
    }

    private void image() {
        b.of(39, "All but THE TAPE and SHEETS is kept: 1.");
        PaneThread x = new PaneThread();
        b.due("a new object", x.image(), 1);
        x.drop(0, 0, 9);
        x.dirt(191, 9);
        x.finger(11);
        x.set(0, 9);
        x.set(1, -20);
        x.set(2, 9);
        x.seed(MIN);
        x.hold(9, 0);
        x.tick(1);
        Checks.programFrom(x, "lean 0");
        b.due("no DROPS then", x.undo(), 0);
        int[] counts = {0, 0, 0, 0, 0, 0, 1, 0};
        for (int what = 0; what < 8; what++) {
            b.due("count(" + what + ") then", x.count(what), counts[what]);
        }
        b.due("LEAN then", x.set(0, 3), 3);
        b.due("WIND then", x.set(1, 0), 0);
        b.due("FADE then", x.set(2, 1), 1);
        b.due("the SPOT then", x.as(9, 0), Checks.MISSING);
        PaneThread full = new PaneThread();
        for (int i = 0; i < 8; i++) {
            full.drop(2, i + 4, 99);
            full.hold(i + 2, i);
        }
        for (int i = 0; i < 6; i++) {
            Checks.programFrom(full, ProgramsBoundaries.repeat("lean " + i, 12));
        }
        b.due("as full as can be", full.image(), 1);
        full.tick(16);
        b.due("SHED meanwhile", full.shed(11), 99);
        b.due("all eight are back", full.undo(), 8);
        b.due("their WATER", full.count(1), 792);
        b.due("nothing is SHED", full.shed(-1), 0);
        b.due("the last SPOT", full.as(9, 2), 7);
        b.due("the last PROGRAM", full.programOf(5, 0), 12);
        b.due("no TICKS", full.count(7), 0);
        imageBehindOthers();
        imageLeaves();
    }

    /** Two drops, two spots and a program, behind an image of a new object. */
    private static PaneThread keptTwice() {
        PaneThread x = new PaneThread();
        x.image();
        x.undo();
        Checks.programFrom(x, "wait 3;again 9 at 11");
        x.drop(5, 4, 30);
        x.drop(7, 9, 40);
        x.tick(2);
        x.hold(0, 0);
        x.hold(9, 1);
        x.image();
        return x;
    }

    /** What was kept comes back though all of it has become otherwise meanwhile. */
    private void imageBehindOthers() {
        PaneThread x = keptTwice();
        x.tick(50);
        x.drop(2, 0, 1);
        x.drop(3, 11, 2);
        x.hold(0, 1);
        x.hold(9, -1);
        b.due("two DROPS", x.undo(), 2);
        int[][] due = {{5, 28, 30, 2}, {7, 33, 38, 2}};
        for (int drop = 0; drop < 2; drop++) {
            for (int what = 0; what < 4; what++) {
                b.due("what " + what + " of DROP " + drop, x.dropOf(drop, what), due[drop][what]);
            }
        }
        b.due("the first SPOT", x.as(0, 5), 0);
        b.due("the last SPOT", x.as(9, 7), 1);
        b.due("DEEDS of a PROGRAM", x.programOf(0, 0), 2);
        b.due("its TICKS", x.programOf(0, 1), 3);
        b.due("what it plays", x.play(0), 3);
        b.due("KIND of what it makes", x.dropOf(2, 0), 7);
        b.due("CELL of what it makes", x.dropOf(2, 1), 11);
        b.due("WATER of what it makes", x.dropOf(2, 2), 9);
        PaneThread torn = keptTwice();
        torn.tear();
        b.due("neither comes back if it is torn", torn.undo(), Checks.NONE);
    }

    private void imageLeaves() {
        PaneThread x = new PaneThread();
        for (int i = 0; i < 25; i++) {
            x.feed(Checks.pack("    "), 4);
        }
        numbers(x, 0, 8, 5, 6);
        x.image();
        x.wipe();
        numbers(x, 0, 16, 7);
        x.sheet(3, 32, 40);
        x.undo();
        b.due("THE TAPE is as it is", x.count(5), 0);
        b.due("a sheet is as it is", x.write(0, 1, 1), Checks.BEYOND);
        b.due("its number too", x.load(0, 0), 1);
        b.due("that number", x.cellOf(0, 0), 7);
        b.due("a sheet that was MISSING isn't", x.write(3, 39, 1), 1);
        x.sheet(0, 0, 0);
        x.feed('a', 1);
        x.undo();
        b.due("one that is MISSING stays so", x.write(0, 0, 1), Checks.MISSING);
        b.due("a byte stays", x.wipe(), 1);
    }

    private void undo() {
        b.of(40, "It becomes what was kept latest (which stays): how many DROPS.");
        PaneThread x = new PaneThread();
        x.image();
        b.due("none", x.undo(), 0);
        for (int i = 0; i < 8; i++) {
            x.drop(2, i, 9);
        }
        x.image();
        x.tick(50);
        b.due("eight", x.undo(), 8);
        x.tick(50);
        b.due("eight, as it stays", x.undo(), 8);
        b.due("their number", x.count(0), 8);
        b.due("no ninth then", x.drop(0, 0, 9), Checks.FULL);
        x.tick(16);
        x.image();
        b.due("the latest, and none ahead of it", x.undo(), 0);
        x.drop(0, 0, 9);
        b.due("still the latest", x.undo(), 0);
        b.due("what was SHED", x.shed(-1), 72);

        b.of(40, "NONE: nothing is kept.");
        PaneThread none = new PaneThread();
        b.due("a new object", none.undo(), Checks.NONE);
        b.refused("behind tear()", y -> {
            Histories.busy(y);
            y.tear();
        }, y -> y.undo(), Checks.NONE);
        b.refused("behind two images and tear()", y -> {
            Histories.busy(y);
            y.image();
            y.tear();
        }, y -> y.undo(), Checks.NONE);
    }

    private void tear() {
        b.of(41, "Nothing is kept: 1 if something was, else 0.");
        PaneThread x = new PaneThread();
        b.due("nothing was", x.tear(), 0);
        x.image();
        b.due("something was", x.tear(), 1);
        b.due("nothing was then", x.tear(), 0);
        b.due("nothing is", x.undo(), Checks.NONE);
        x.image();
        x.image();
        b.due("two images are one thing", x.tear(), 1);
        b.due("nothing was then either", x.tear(), 0);
        x.image();
        x.undo();
        b.due("undo() keeps it", x.tear(), 1);
        b.due("no finding but that of undo()", x.status(-1), 1);
        PaneThread stays = new PaneThread();
        stays.drop(0, 5, 9);
        stays.image();
        stays.tick(1);
        stays.tear();
        b.due("things stay as they are", stays.dropOf(0, 1), 17);
    }

    private void count() {
        b.of(42, "0 DROPS, 1 their WATER together, 2 WET CELLS, 3 CELLS with DIRT, 4 PROGRAMS, 5 bytes of THE TAPE, 6 z,"
                + " 7 TICKS so far.");
        PaneThread none = new PaneThread();
        int[] least = {0, 0, 0, 0, 0, 0, 1, 0};
        for (int what = 0; what < 8; what++) {
            b.due("the least, what " + what, none.count(what), least[what]);
        }
        PaneThread x = new PaneThread();
        x.tick(50);
        Histories.hardest(x);
        for (int i = 0; i < 12; i++) {
            x.finger(i);
        }
        for (int i = 0; i < 8; i++) {
            x.drop(0, i, 99);
        }
        for (int i = 0; i < 6; i++) {
            Checks.programFrom(x, "wait 50");
        }
        for (int i = 0; i < 25; i++) {
            x.feed(-1, 4);
        }
        x.seed(MAX);
        int[] most = {8, 792, 192, 192, 6, 100, MAX, 50};
        for (int what = 0; what < 8; what++) {
            b.due("the most, what " + what, x.count(what), most[what]);
        }
        for (int i = 0; i < 6; i++) {
            x.play(i);
        }
        b.due("TICKS of PROGRAMS count", x.count(7), 350);
        PaneThread one = new PaneThread();
        one.dirt(191, 1);
        one.drop(2, 5, 99);
        one.drop(2, 5, 99);
        b.due("the most WATER twice", one.count(1), 198);
        one.tick(1);
        b.due("WATER of one that joined another is none", one.count(1), 99);
        one.tick(15);
        b.due("WATER of one that went OUT is none", one.count(1), 0);
        one.drop(1, 5, 1);
        one.tick(1);
        b.due("WATER of one that is GONE is none", one.count(1), 0);
        one.set(2, 9);
        one.tick(11);
        Histories.wetTo(one, 0, 1);
        b.due("1 WET counts", one.count(2), 16);
        b.due("1 DIRT counts", one.count(3), 1);
        one.tick(1);
        b.due("0 WET doesn't", one.count(2), 0);
        one.dirt(191, 0);
        b.due("0 DIRT doesn't", one.count(3), 0);
        one.seed(MIN);
        b.due("the least z", one.count(6), MIN);

        b.of(42, "BEYOND: another what.");
        b.bounds("count(what)", 0, 7, (y, v) -> y.count(v));
    }

    private void status() {
        b.of(43, "How many acts answered a finding ever (undo() takes none back): which -1: all, 0 to 6: BEYOND to SIZE.");
        PaneThread x = new PaneThread();
        for (int which = -1; which < 7; which++) {
            b.due("none, which " + which, x.status(which), 0);
        }
        x.image();
        x.clean(16);
        x.dropOf(0, 0);
        x.dropOf(0, 0);
        for (int i = 0; i < 3; i++) {
            x.write(0, 0, 0);
        }
        for (int i = 0; i < 4; i++) {
            x.sheet(0, 8, -1);
        }
        for (int i = 0; i < 8; i++) {
            x.drop(2, i, 9);
        }
        for (int i = 0; i < 5; i++) {
            x.drop(2, 0, 9);
        }
        x.hold(0, 0);
        for (int i = 0; i < 6; i++) {
            x.as(0, 3);
        }
        int[] due = {21, 1, 5, 6, 2, 0, 3, 4};
        for (int which = -1; which < 7; which++) {
            b.due("which " + which, x.status(which), due[which + 1]);
        }
        x.undo();
        for (int which = -1; which < 7; which++) {
            b.due("behind undo(), which " + which, x.status(which), due[which + 1]);
        }
        x.program();
        b.due("a FAULT is none", x.status(-1), 21);
        x.seed(-1000001);
        x.seed(-1000002);
        b.due("nor is z that looks like one", x.status(-1), 21);
        PaneThread many = new PaneThread();
        for (int i = 0; i < 500; i++) {
            many.tick(0);
        }
        b.due("as many as calls", many.status(-1), 500);

        b.of(43, "BEYOND (counted from then on): another one.");
        b.bounds("status(which)", -1, 6, (y, v) -> y.status(v));
        PaneThread y = new PaneThread();
        b.due("one above", y.status(7), Checks.BEYOND);
        b.due("is counted", y.status(0), 1);
        b.due("one below", y.status(-2), Checks.BEYOND);
        b.due("is counted, too", y.status(0), 2);
        b.due("in all", y.status(-1), 2);
    }
}
