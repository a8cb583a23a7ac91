/** Boundary cases of the terms: where a drop goes, and a tick. */
final class GoingBoundaries {
    private static final int GOING = 0;
    private static final int DROPPING = 1;
    private static final int STRAIGHT = 2;
    private static final int STANDING = 3;
    private static final int SWINGING = 4;
    private static final int BROKEN = 5;
    private static final int PLAITED = 6;
    private static final int AGAIN = 7;

    private final Boundaries b;

    GoingBoundaries(Boundaries b) {
        this.b = b;
    }

    void all() {
        canGo();
        threeBelow();
        goesOut();
        going();
        straightAndStanding();
        swingingAndBroken();
        plaited();
        again();
        kindAbove();
        held();
        comesToCell();
        tickOneByOne();
        tickWets();
        wind();
        joining();
        fading();
    }

    /** One tick of a new drop; dirt comes as pairs of a cell and its dirt. */
    private void lands(String label, int kind, int column, int water, int due, int... dirt) {
        PaneThread x = new PaneThread();
        Histories.dirty(x, dirt);
        x.drop(kind, column, water);
        b.due(label + ", next", x.next(0), due);
        x.tick(1);
        // A dropping one with its last water is gone where it lands.
        if (x.count(0) == 1) {
            b.due(label, x.dropOf(0, 1), due);
            b.due(label + ", STEPS", x.dropOf(0, 3), due == column ? 0 : 1);
        }
    }

    private void canGo() {
        b.ofTerms("A DROP can go to a CELL, if its HOLD is not more than WATER and LEAN together.");
        int[][] cases = {{5, 12, 3, 1}, {5, 11, 3, 0}, {5, 13, 3, 1}, {9, 27, 0, 1}, {9, 26, 0, 0}, {9, 18, 9, 1}, {9, 17, 9, 0},
            {0, 1, 0, 1}, {1, 1, 2, 1}, {1, 1, 1, 0}, {9, 99, 9, 1}};
        for (int[] c : cases) {
            PaneThread x = new PaneThread();
            x.dirt(17, c[0]);
            x.set(0, c[2]);
            x.drop(STRAIGHT, 5, c[1]);
            b.due("DIRT " + c[0] + ", WATER " + c[1] + ", LEAN " + c[2], x.next(0), c[3] == 1 ? 17 : 5);
        }
        PaneThread wet = new PaneThread();
        wet.finger(5);
        wet.dirt(17, 9);
        wet.drop(STRAIGHT, 5, 14);
        b.due("18 for 17", wet.next(0), 5);
        wet.pour(0, 1);
        b.due("18 for 18", wet.next(0), 17);
    }

    private void threeBelow() {
        b.ofTerms("STRAIGHT DOWN, LEFT DOWN, RIGHT DOWN are the CELLS of the next row in its column, the one to the left,"
                + " to the right (if there are such ones).");
        lands("no LEFT of column 0, though CELL 11 is clean", GOING, 0, 9, 0, 12, 9, 13, 9);
        lands("no RIGHT of column 11, though CELL 24 is clean", GOING, 11, 9, 11, 23, 9, 22, 9);
        lands("RIGHT of column 0", GOING, 0, 9, 13, 12, 9);
        lands("LEFT of column 11", GOING, 11, 9, 22, 23, 9);
        lands("LEFT to column 0", GOING, 1, 9, 12, 13, 9, 14, 9);
        lands("RIGHT to column 11", GOING, 10, 9, 23, 22, 9, 21, 9);
        lands("no LEFT to swing to", SWINGING, 0, 9, 12);
        lands("not two columns aside", GOING, 5, 9, 5, 16, 9, 17, 9, 18, 9);
        PaneThread last = new PaneThread();
        last.drop(GOING, 11, 9);
        last.tick(14);
        Histories.dirty(last, 191, 9);
        b.due("LEFT to the last row", last.next(0), 190);
    }

    private void goesOut() {
        b.ofTerms("A DROP of the last row goes OUT (at its column), whatever its KIND.");
        int[] columns = {0, 11};
        for (int kind = 0; kind < 8; kind++) {
            for (int column : columns) {
                PaneThread x = new PaneThread();
                // All but its own way is dirt, so that every kind goes straight.
                int beside = column == 0 ? 1 : 10;
                for (int row = 1; row < 16; row++) {
                    x.dirt(12 * row + beside, 9);
                }
                x.drop(kind, column, 17);
                x.tick(15);
                b.due("on the last row, KIND " + kind, x.dropOf(0, 1), 180 + column);
                x.set(0, 0);
                Histories.bar(x, 15, -1, 0);
                b.due("OUT next, KIND " + kind, x.next(0), -1);
                b.due("OUT, KIND " + kind, x.tick(1), 0);
                b.due("at its column, KIND " + kind, x.shed(column), kind == DROPPING || kind == AGAIN ? 2 : 17);
            }
        }
        PaneThread inner = new PaneThread();
        inner.drop(STANDING, 4, 1);
        inner.tick(15);
        inner.tick(1);
        b.due("a STANDING one of an even column doesn't go aside", inner.shed(4), 1);
    }

    private void going() {
        b.ofTerms("Else it GOES: GOING: to that of the three to which it can go that has the least HOLD"
                + " (of like ones STRAIGHT, then LEFT, then RIGHT).");
        lands("all like", GOING, 5, 9, 17);
        lands("all like, with DIRT", GOING, 5, 9, 17, 16, 2, 17, 2, 18, 2);
        lands("LEFT and RIGHT like", GOING, 5, 9, 16, 17, 3, 16, 2, 18, 2);
        lands("STRAIGHT and RIGHT like", GOING, 5, 9, 17, 17, 2, 16, 3, 18, 2);
        lands("STRAIGHT and LEFT like", GOING, 5, 9, 17, 17, 2, 16, 2, 18, 3);
        lands("RIGHT least by one DIRT", GOING, 5, 9, 18, 17, 2, 16, 2, 18, 1);
        lands("the least alone, just so", GOING, 5, 9, 18, 17, 5, 16, 5, 18, 4);
        lands("none, just so", GOING, 5, 8, 5, 17, 5, 16, 5, 18, 4);
        PaneThread wet = new PaneThread();
        Histories.wetTo(wet, 6, 10);
        Histories.dirty(wet, 16, 1, 17, 1, 18, 1);
        wet.drop(GOING, 5, 9);
        b.due("least HOLD by 10 WET", wet.next(0), 18);
        PaneThread dry = new PaneThread();
        Histories.wetTo(dry, 6, 9);
        Histories.dirty(dry, 16, 1, 17, 1, 18, 1);
        dry.drop(GOING, 5, 9);
        b.due("like HOLD with 9 WET", dry.next(0), 17);
    }

    private void straightAndStanding() {
        b.ofTerms("STRAIGHT: STRAIGHT DOWN, if it can.");
        lands("just so", STRAIGHT, 5, 9, 17, 17, 4);
        lands("just not, though others are clean", STRAIGHT, 5, 8, 5, 17, 4);
        lands("just not, at the edge", STRAIGHT, 0, 8, 0, 12, 4);

        b.ofTerms("STANDING: as a STRAIGHT one; if it can't so, on its own row to the left, if its column is even,"
                + " else to the right (if there is such a CELL, and it can).");
        lands("as a STRAIGHT one, just so", STANDING, 4, 9, 16, 16, 4);
        lands("just not: even, to the left", STANDING, 4, 8, 3, 16, 4);
        lands("just not: odd, to the right", STANDING, 5, 8, 6, 17, 4);
        lands("column 0: no CELL to the left, though CELL 1 is clean", STANDING, 0, 8, 0, 12, 4);
        lands("column 11: no CELL to the right, though CELL 12 is clean", STANDING, 11, 8, 11, 23, 4);
        lands("column 1 to the right", STANDING, 1, 8, 2, 13, 4);
        lands("column 10 to the left", STANDING, 10, 8, 9, 22, 4);
        lands("aside, just so", STANDING, 4, 9, 3, 16, 5, 3, 4);
        lands("aside, just not, though the other side is clean", STANDING, 4, 8, 4, 16, 5, 3, 4);
        PaneThread below = new PaneThread();
        below.drop(STANDING, 0, 8);
        below.tick(1);
        below.dirt(24, 9);
        b.due("column 0 of row 1: not to the row above", below.next(0), 12);
        PaneThread last = new PaneThread();
        last.drop(STANDING, 11, 8);
        last.tick(1);
        last.dirt(35, 9);
        b.due("column 11 of row 1: not to the row below", last.next(0), 23);
    }

    private void swingingAndBroken() {
        b.ofTerms("SWINGING: LEFT DOWN with even STEPS, RIGHT DOWN with odd ones, if there is such a CELL, and it can;"
                + " else as GOING.");
        lands("0 STEPS", SWINGING, 5, 9, 16);
        lands("just so", SWINGING, 5, 9, 16, 16, 4);
        lands("just not", SWINGING, 5, 8, 17, 16, 4);
        lands("just not, else as GOING to the right", SWINGING, 5, 8, 18, 16, 4, 17, 1);
        lands("just not, else HELD", SWINGING, 5, 8, 5, 16, 4, 17, 4, 18, 4);
        lands("no LEFT of column 0", SWINGING, 0, 9, 12);
        lands("no LEFT of column 0, else as GOING", SWINGING, 0, 9, 13, 12, 1);
        lands("column 1 to column 0", SWINGING, 1, 9, 12);
        PaneThread x = new PaneThread();
        x.dirt(22, 9);
        x.drop(SWINGING, 11, 9);
        x.tick(1);
        b.due("1 STEP, no RIGHT of column 11", x.next(0), 35);
        x.dirt(35, 1);
        b.due("1 STEP, else as GOING", x.next(0), 34);
        PaneThread y = new PaneThread();
        y.drop(SWINGING, 11, 9);
        y.tick(1);
        b.due("1 STEP, to column 11", y.next(0), 35);
        y.tick(1);
        b.due("2 STEPS", y.next(0), 46);

        b.ofTerms("BROKEN: as GOING, if the rest of STEPS by 3 is 2, else as SWINGING.");
        PaneThread z = new PaneThread();
        z.drop(BROKEN, 5, 9);
        int[] columns = {5, 4, 5, 5, 6, 5, 5, 4, 5, 5, 6, 5, 5, 4, 5, 5};
        for (int i = 0; i < 16; i++) {
            b.due(i + " STEPS", z.dropOf(0, 1), 12 * i + columns[i]);
            z.tick(1);
        }
        lands("0 STEPS, no LEFT of column 0", BROKEN, 0, 9, 12);
        PaneThread soft = new PaneThread();
        soft.drop(BROKEN, 5, 9);
        soft.tick(2);
        soft.dirt(41, 1);
        b.due("2 STEPS, to the softest", soft.next(0), 40);
    }

    private void plaited() {
        b.ofTerms("PLAITED: as a STRAIGHT one; if it can't so as GOING.");
        lands("just so, though others are clean", PLAITED, 5, 9, 17, 17, 4);
        lands("just not", PLAITED, 5, 8, 16, 17, 4);
        lands("just not, the softest", PLAITED, 5, 8, 18, 17, 4, 16, 1);
        lands("just not, none", PLAITED, 5, 8, 5, 17, 4, 16, 4, 18, 4);
        lands("just not, column 0", PLAITED, 0, 8, 13, 12, 4);
        lands("just not, column 11", PLAITED, 11, 8, 22, 23, 4);
    }

    /** Where an again one of column 5 goes, as columns are so wet (pairs, the least wet first), and with that dirt. */
    private void goesAgain(String label, int due, int water, int[] wets, int... dirt) {
        PaneThread x = new PaneThread();
        Histories.wetTo(x, wets);
        Histories.dirty(x, dirt);
        x.drop(AGAIN, 5, water);
        b.due(label, x.next(0), due);
    }

    private void again() {
        b.ofTerms("AGAIN: to that of the three to which it can go, and that is WET, that is most WET"
                + " (of like ones STRAIGHT, then LEFT, then RIGHT); if there is none as a DROPPING one.");
        goesAgain("1 WET is WET, RIGHT", 18, 9, new int[] {6, 1});
        goesAgain("1 WET is WET, LEFT", 16, 9, new int[] {4, 1});
        goesAgain("most WET by 1, RIGHT", 18, 9, new int[] {5, 1, 4, 2, 6, 3});
        goesAgain("most WET by 1, LEFT", 16, 9, new int[] {5, 97, 6, 98, 4, 99});
        goesAgain("all like", 17, 9, new int[] {6, 1, 4, 1, 5, 1});
        goesAgain("LEFT and RIGHT like", 16, 9, new int[] {5, 98, 6, 99, 4, 99});
        goesAgain("STRAIGHT and RIGHT like", 17, 9, new int[] {4, 98, 6, 99, 5, 99});
        goesAgain("STRAIGHT and LEFT like", 17, 9, new int[] {6, 98, 4, 99, 5, 99});
        goesAgain("WET, though it holds more, just so", 18, 9, new int[] {6, 9}, 18, 4);
        goesAgain("WET, but it can't, just so: as a DROPPING one", 17, 8, new int[] {6, 9}, 18, 4);
        goesAgain("the less WET one, as it can't to the other", 16, 8, new int[] {4, 1, 6, 9}, 18, 4);
        goesAgain("none WET: the softest", 18, 9, new int[0], 16, 2, 17, 2, 18, 1);
        goesAgain("none WET that it can go to: HELD", 5, 8, new int[] {6, 9}, 16, 4, 17, 4, 18, 4);
        PaneThread dry = new PaneThread();
        Histories.wetTo(dry, 6, 1);
        dry.tick(1);
        dry.drop(AGAIN, 5, 9);
        b.due("0 WET isn't WET", dry.next(0), 17);
        PaneThread edge = new PaneThread();
        edge.finger(11);
        edge.drop(AGAIN, 0, 9);
        b.due("column 0, CELL 11 being WET", edge.next(0), 12);
        PaneThread other = new PaneThread();
        other.finger(0);
        other.drop(AGAIN, 11, 9);
        b.due("column 11, CELL 24 being WET", other.next(0), 23);
    }

    private void kindAbove() {
        b.ofTerms("Others as the KIND above.");
        lands("DROPPING, all like", DROPPING, 5, 9, 17);
        lands("DROPPING, LEFT and RIGHT like", DROPPING, 5, 9, 16, 17, 3, 16, 2, 18, 2);
        lands("DROPPING, the softest, just so", DROPPING, 5, 9, 18, 17, 5, 16, 5, 18, 4);
        lands("DROPPING, HELD, just so", DROPPING, 5, 8, 5, 17, 5, 16, 5, 18, 4);
        lands("DROPPING, no LEFT of column 0", DROPPING, 0, 9, 13, 12, 1);
        lands("DROPPING, no RIGHT of column 11", DROPPING, 11, 9, 22, 23, 1);
    }

    private void held() {
        b.ofTerms("If there is nothing to which it goes, it is HELD.");
        for (int kind = 0; kind < 8; kind++) {
            PaneThread x = new PaneThread();
            Histories.bar(x, 1, -1, 0);
            // No column 12 for a standing one to go to.
            x.drop(kind, 11, 23);
            b.due("its own CELL is told, KIND " + kind, x.next(0), 11);
            b.due("it stays, KIND " + kind, x.tick(2), 1);
            b.due("on its CELL, KIND " + kind, x.dropOf(0, 1), 11);
            b.due("with its WATER, KIND " + kind, x.dropOf(0, 2), 23);
            b.due("no STEPS, KIND " + kind, x.dropOf(0, 3), 0);
            b.due("its CELL isn't wetted again, KIND " + kind, x.cellOf(11, 1), 97);
            x.pour(0, 1);
            x.tick(1);
            b.due("not with one more WATER, KIND " + kind, x.dropOf(0, 3), 1);
        }
    }

    private void comesToCell() {
        b.ofTerms("As it comes to a CELL, STEPS are one more; WATER of a DROPPING one (and what is under that) is one less"
                + " then (if it is 0, the DROP is GONE there).");
        for (int kind = 0; kind < 8; kind++) {
            boolean isLess = kind == DROPPING || kind == AGAIN;
            PaneThread x = new PaneThread();
            x.drop(kind, 5, 2);
            x.tick(1);
            b.due("STEPS, KIND " + kind, x.dropOf(0, 3), 1);
            b.due("WATER 2, KIND " + kind, x.dropOf(0, 2), isLess ? 1 : 2);
            b.due("the last WATER, KIND " + kind, x.tick(1), isLess ? 0 : 1);
            b.due("nothing is SHED, KIND " + kind, x.shed(-1), 0);
            PaneThread most = new PaneThread();
            most.drop(kind, 5, 99);
            most.tick(15);
            b.due("15 STEPS, KIND " + kind, most.dropOf(0, 3), 15);
            b.due("WATER 99, KIND " + kind, most.dropOf(0, 2), isLess ? 84 : 99);
            most.tick(1);
            b.due("going OUT costs none, KIND " + kind, most.shed(-1), isLess ? 84 : 99);
        }
        PaneThread last = new PaneThread();
        last.drop(DROPPING, 5, 15);
        b.due("GONE on the last row", last.tick(15), 0);
        b.due("not OUT", last.shed(5), 0);
        b.due("that CELL is WET", last.cellOf(185, 1), 98);
    }

    private void ofTick() {
        b.ofTerms("A TICK: DROPS GO one by one, by numbers (each also to where others are); each CELL to which one comes is"
                + " 99 WET (also if it is GONE there); what goes OUT is SHED at its column, WATER and all.");
    }

    private void tickOneByOne() {
        ofTick();
        PaneThread below = new PaneThread();
        below.drop(DROPPING, 0, 1);
        below.drop(STRAIGHT, 5, 9);
        below.tick(1);
        b.due("number 0 is above number 1 now", below.drop(STRAIGHT, 5, 9), 0);
        b.due("to where the other was, which goes on", below.tick(1), 2);
        b.due("number 0", below.dropOf(0, 1), 17);
        b.due("number 1", below.dropOf(1, 1), 29);
        PaneThread held = new PaneThread();
        held.drop(STRAIGHT, 5, 9);
        held.tick(1);
        held.dirt(29, 9);
        held.drop(STRAIGHT, 5, 9);
        b.due("to where the other is, which is HELD", held.tick(1), 1);
        b.due("they are one", held.dropOf(0, 2), 18);
        PaneThread wetted = new PaneThread();
        wetted.drop(STRAIGHT, 4, 9);
        wetted.drop(AGAIN, 5, 9);
        wetted.tick(1);
        b.due("number 1 sees what number 0 wetted", wetted.dropOf(0, 2), 17);
        PaneThread unseen = new PaneThread();
        unseen.drop(AGAIN, 5, 9);
        unseen.drop(STRAIGHT, 4, 9);
        unseen.tick(1);
        b.due("number 0 doesn't see what number 1 wets", unseen.dropOf(0, 1), 17);
        PaneThread eight = new PaneThread();
        for (int i = 0; i < 8; i++) {
            eight.drop(STRAIGHT, i, 9);
        }
        eight.tick(1);
        for (int i = 0; i < 8; i++) {
            b.due("all eight go, " + i, eight.dropOf(i, 1), 12 + i);
        }
    }

    private void tickWets() {
        ofTick();
        PaneThread x = new PaneThread();
        x.set(2, 0);
        x.drop(DROPPING, 5, 1);
        x.drop(STRAIGHT, 11, 99);
        b.due("one is GONE", x.tick(1), 1);
        b.due("99 WET where it is GONE", x.cellOf(17, 1), 99);
        b.due("99 WET where the other came", x.cellOf(23, 1), 99);
        b.due("not where none came", x.cellOf(29, 1), 0);
        x.tick(15);
        b.due("99 WET on the last row", x.cellOf(191, 1), 99);
        b.due("SHED at the last column, WATER and all", x.shed(11), 99);
        b.due("nothing elsewhere", x.shed(-1), 99);
        PaneThread first = new PaneThread();
        first.drop(STRAIGHT, 0, 1);
        b.due("OUT behind 16 TICKS", first.tick(16), 0);
        b.due("the least WATER at the first column", first.shed(0), 1);
        PaneThread both = new PaneThread();
        both.drop(STRAIGHT, 0, 99);
        both.tick(1);
        both.drop(STRAIGHT, 0, 99);
        both.tick(16);
        b.due("SHED is more than 99", both.shed(0), 198);
    }

    private void wind() {
        b.ofTerms("Then each DROP with WATER less than WIND (without its sign) goes one column to the left (WIND below 0) or"
                + " to the right, if there is such a CELL (which is 99 WET then; no STEP).");
        int[][] cases = {{20, 19, 1}, {20, 20, 0}, {-20, 19, -1}, {-20, 20, 0}, {1, 1, 0}, {-1, 1, 0}, {2, 1, 1}, {-2, 1, -1},
            {2, 2, 0}, {0, 1, 0}, {20, 99, 0}, {20, 1, 1}};
        for (int[] c : cases) {
            PaneThread x = new PaneThread();
            x.set(1, c[0]);
            x.set(2, 0);
            x.drop(STRAIGHT, 5, c[1]);
            x.tick(1);
            String label = "WIND " + c[0] + ", WATER " + c[1];
            b.due(label, x.dropOf(0, 1), 17 + c[2]);
            b.due(label + ", no STEP", x.dropOf(0, 3), 1);
            b.due(label + ", WET where it came down", x.cellOf(17, 1), 99);
            b.due(label + ", WET where it went", x.cellOf(17 + c[2], 1), 99);
            b.due(label + ", no other CELL", x.count(2), c[2] == 0 ? 2 : 3);
            b.due(label + ", WATER stays", x.dropOf(0, 2), c[1]);
        }
        PaneThread edges = new PaneThread();
        edges.set(1, 20);
        edges.drop(STRAIGHT, 11, 1);
        edges.tick(1);
        b.due("no CELL to the right of column 11", edges.dropOf(0, 1), 23);
        b.due("CELL 24 isn't wetted", edges.cellOf(24, 1), 0);
        PaneThread left = new PaneThread();
        left.set(1, -20);
        left.drop(STRAIGHT, 0, 1);
        left.tick(1);
        b.due("no CELL to the left of column 0", left.dropOf(0, 1), 12);
        b.due("CELL 11 isn't wetted", left.cellOf(11, 1), 0);
        PaneThread to = new PaneThread();
        to.set(1, 20);
        to.drop(STRAIGHT, 10, 1);
        to.drop(DROPPING, 3, 2);
        to.dirt(16, 9);
        to.tick(1);
        b.due("to the last column", to.dropOf(0, 1), 23);
        b.due("to where it couldn't go", to.dropOf(1, 1), 16);
        b.due("a DROPPING one loses WATER but once", to.dropOf(1, 2), 1);
        PaneThread less = new PaneThread();
        less.set(1, 5);
        less.drop(DROPPING, 5, 5);
        less.tick(1);
        b.due("WATER is less by then", less.dropOf(0, 1), 18);
        PaneThread out = new PaneThread();
        out.drop(STRAIGHT, 5, 1);
        out.tick(15);
        out.set(1, 20);
        out.tick(1);
        b.due("OUT ahead of WIND", out.shed(5), 1);
        PaneThread held = new PaneThread();
        Histories.bar(held, 1, -1, 0);
        held.set(1, -20);
        held.drop(STRAIGHT, 1, 1);
        held.tick(1);
        b.due("a HELD one, too", held.dropOf(0, 1), 0);
        b.due("without a STEP", held.dropOf(0, 3), 0);
    }

    private void joining() {
        b.ofTerms("Then, of DROPS on one CELL the one with the least number takes all WATER (99 at most), the others are GONE.");
        int[][] sums = {{50, 48, 98}, {50, 49, 99}, {50, 50, 99}, {99, 99, 99}, {1, 1, 2}, {99, 1, 99}, {1, 99, 99}};
        for (int[] s : sums) {
            PaneThread x = new PaneThread();
            x.drop(STRAIGHT, 5, s[0]);
            x.drop(PLAITED, 5, s[1]);
            String label = s[0] + " and " + s[1];
            b.due(label + ", one is left", x.tick(1), 1);
            b.due(label + ", its WATER", x.dropOf(0, 2), s[2]);
            b.due(label + ", its KIND", x.dropOf(0, 0), STRAIGHT);
            b.due(label + ", the other is GONE", x.dropOf(1, 2), Checks.NONE);
            b.due(label + ", nothing is SHED", x.shed(-1), 0);
        }
        PaneThread eight = new PaneThread();
        for (int i = 0; i < 8; i++) {
            eight.drop(STRAIGHT, 11, 12);
        }
        b.due("all eight", eight.tick(1), 1);
        b.due("their WATER", eight.dropOf(0, 2), 96);
        PaneThread pairs = new PaneThread();
        pairs.drop(STRAIGHT, 0, 1);
        pairs.drop(STRAIGHT, 11, 2);
        pairs.drop(STRAIGHT, 0, 4);
        pairs.drop(STRAIGHT, 11, 8);
        b.due("two pairs", pairs.tick(1), 2);
        b.due("the first pair", pairs.dropOf(0, 2), 5);
        b.due("the other pair", pairs.dropOf(1, 2), 10);
        PaneThread blown = new PaneThread();
        blown.set(1, 9);
        blown.drop(STRAIGHT, 6, 9);
        blown.drop(STRAIGHT, 5, 8);
        b.due("behind WIND", blown.tick(1), 1);
        b.due("behind WIND, their WATER", blown.dropOf(0, 2), 17);
        PaneThread ahead = new PaneThread();
        ahead.set(1, 9);
        ahead.drop(STRAIGHT, 5, 8);
        ahead.drop(STRAIGHT, 5, 9);
        b.due("not ahead of WIND", ahead.tick(1), 2);
        PaneThread gone = new PaneThread();
        gone.drop(DROPPING, 5, 1);
        gone.drop(STRAIGHT, 5, 9);
        b.due("one that is GONE takes nothing", gone.tick(1), 1);
        b.due("the other has its own", gone.dropOf(1, 2), 9);
        PaneThread top = new PaneThread();
        top.drop(STRAIGHT, 5, 1);
        b.due("not ahead of a TICK", top.drop(STRAIGHT, 5, 1), 1);
        b.due("both are there", top.count(0), 2);
    }

    private void fading() {
        b.ofTerms("Then WET of each CELL is FADE less (0 at least).");
        int[][] cases = {{99, 0, 99}, {99, 1, 98}, {99, 9, 90}, {9, 9, 0}, {8, 9, 0}, {1, 9, 0}, {10, 9, 1}, {1, 1, 0}, {1, 0, 1}};
        int[] cells = {0, 180};
        for (int[] c : cases) {
            for (int cell : cells) {
                PaneThread x = new PaneThread();
                Histories.wetTo(x, 0, c[0]);
                x.set(2, c[1]);
                x.tick(1);
                b.due("WET " + c[0] + ", FADE " + c[1] + ", CELL " + cell, x.cellOf(cell, 1), c[2]);
            }
        }
        PaneThread last = new PaneThread();
        last.finger(11);
        last.set(2, 9);
        last.tick(1);
        b.due("the last CELL", last.cellOf(191, 1), 90);
        b.due("one that isn't WET", last.cellOf(190, 1), 0);
        PaneThread came = new PaneThread();
        came.set(2, 9);
        came.drop(STRAIGHT, 5, 9);
        came.tick(1);
        b.due("also where one has come just now", came.cellOf(17, 1), 90);
    }
}
