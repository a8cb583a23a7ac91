import java.util.function.Consumer;

/** Boundary cases of promises 9 to 14: drops. */
final class DropsBoundaries {
    private static final Consumer<PaneThread> BUSY = Histories::busy;
    private static final Consumer<PaneThread> EIGHT = Histories::eightDrops;

    private final Boundaries b;

    DropsBoundaries(Boundaries b) {
        this.b = b;
    }

    void all() {
        drop();
        dropOf();
        tick();
        next();
        pour();
        shed();
    }

    private void drop() {
        b.of(9, "A new DROP on row 0 of a column (which is 99 WET then): its number.");
        int[][] ends = {{0, 0, 1}, {7, 11, 99}};
        for (int[] e : ends) {
            PaneThread x = new PaneThread();
            Histories.wetTo(x, e[1], 5);
            b.due("the first", x.drop(e[0], e[1], e[2]), 0);
            b.due("its KIND", x.dropOf(0, 0), e[0]);
            b.due("its CELL", x.dropOf(0, 1), e[1]);
            b.due("its WATER", x.dropOf(0, 2), e[2]);
            b.due("its STEPS", x.dropOf(0, 3), 0);
            b.due("its CELL is 99 WET", x.cellOf(e[1], 1), 99);
            b.due("the one below isn't", x.cellOf(e[1] + 12, 1), 5);
            for (int i = 1; i < 8; i++) {
                b.due("on one CELL with others", x.drop(e[0], e[1], e[2]), i);
            }
            b.due("eight", x.count(0), 8);
        }

        b.of(9, "BEYOND: kind, column, water.");
        b.bounds("drop(kind, 5, 5)", 0, 7, (y, v) -> y.drop(v, 5, 5));
        b.bounds("drop(0, column, 5)", 0, 11, (y, v) -> y.drop(0, v, 5));
        b.bounds("drop(0, 5, water)", 1, 99, (y, v) -> y.drop(0, 5, v));
        b.refused("kind, with eight DROPS", EIGHT, y -> y.drop(8, 5, 5), Checks.BEYOND);
        b.refused("column, with eight DROPS", EIGHT, y -> y.drop(0, 12, 5), Checks.BEYOND);
        b.refused("water, with eight DROPS", EIGHT, y -> y.drop(0, 5, 0), Checks.BEYOND);
        b.refused("all three", BUSY, y -> y.drop(8, 12, 100), Checks.BEYOND);

        b.of(9, "FULL.");
        b.refused("a ninth", EIGHT, y -> y.drop(0, 11, 5), Checks.FULL);
        PaneThread x = new PaneThread();
        for (int i = 0; i < 8; i++) {
            b.due("number " + i, x.drop(i == 3 ? 1 : 2, i, i == 3 ? 1 : 9), i);
        }
        b.due("no ninth", x.drop(2, 11, 9), Checks.FULL);
        b.due("its column isn't WET", x.cellOf(11, 1), 0);
        x.tick(1);
        b.due("in place of the one that is GONE", x.drop(2, 11, 9), 3);
        b.due("FULL again", x.drop(2, 11, 9), Checks.FULL);
    }

    private void dropOf() {
        b.of(10, "Of a DROP: what 0 KIND, 1 its CELL, 2 WATER, 3 STEPS.");
        PaneThread x = new PaneThread();
        for (int i = 0; i < 8; i++) {
            x.drop(7 - i, i + 4, i == 7 ? 99 : i + 20);
        }
        b.due("KIND of the first", x.dropOf(0, 0), 7);
        b.due("KIND of the last", x.dropOf(7, 0), 0);
        b.due("CELL of the last", x.dropOf(7, 1), 11);
        b.due("the most WATER", x.dropOf(7, 2), 99);
        b.due("no STEPS", x.dropOf(7, 3), 0);
        PaneThread many = new PaneThread();
        Histories.bar(many, 1, -1, 0);
        many.drop(3, 4, 9);
        many.tick(50);
        many.tick(50);
        b.due("STEPS of one that goes to and fro aren't ended by 64", many.dropOf(0, 3), 100);
        PaneThread last = new PaneThread();
        last.drop(0, 11, 1);
        last.tick(15);
        b.due("the last CELL", last.dropOf(0, 1), 191);
        b.due("the least WATER", last.dropOf(0, 2), 1);

        b.of(10, "BEYOND: no such number, what.");
        b.bounds("dropOf(drop, 0)", 0, 7, EIGHT, (y, v) -> y.dropOf(v, 0));
        b.bounds("dropOf(0, what)", 0, 3, (y, v) -> y.dropOf(0, v));
        b.refused("what of no DROP", BUSY, y -> y.dropOf(7, 4), Checks.BEYOND);
        b.refused("what below 0 of no DROP", BUSY, y -> y.dropOf(7, -1), Checks.BEYOND);

        b.of(10, "NONE: there is no such DROP.");
        b.refused("a number that never was", BUSY, y -> y.dropOf(7, 0), Checks.NONE);
        noDropBehind("GONE", y -> {
            y.drop(1, 5, 1);
            y.tick(1);
        });
        noDropBehind("OUT", y -> {
            y.drop(2, 5, 9);
            y.tick(16);
        });
        PaneThread joined = new PaneThread();
        joined.drop(0, 5, 9);
        joined.drop(0, 5, 9);
        joined.tick(1);
        for (int what = 0; what < 4; what++) {
            b.due("what " + what + " of one that joined another", joined.dropOf(1, what), Checks.NONE);
        }
    }

    private void noDropBehind(String label, Consumer<PaneThread> history) {
        PaneThread x = new PaneThread();
        history.accept(x);
        for (int what = 0; what < 4; what++) {
            b.due("what " + what + " of one that is " + label, x.dropOf(0, what), Checks.NONE);
        }
    }

    private void tick() {
        b.of(11, "n TICKS (1 to 50): how many DROPS there are then.");
        PaneThread x = new PaneThread();
        b.due("none, one TICK", x.tick(1), 0);
        b.due("one TICK so far", x.count(7), 1);
        b.due("none, 50 TICKS", x.tick(50), 0);
        b.due("51 so far", x.count(7), 51);
        for (int i = 0; i < 8; i++) {
            x.drop(2, i, 9);
        }
        b.due("all eight", x.tick(1), 8);
        b.due("all eight on the last row", x.tick(14), 8);
        b.due("none any more", x.tick(1), 0);
        PaneThread fading = new PaneThread();
        fading.finger(0);
        fading.tick(50);
        b.due("50 TICKS have faded", fading.cellOf(0, 1), 49);
        fading.tick(1);
        b.due("one TICK has faded", fading.cellOf(0, 1), 48);

        b.of(11, "BEYOND.");
        b.bounds("tick(n)", 1, 50, (y, v) -> y.tick(v));
    }

    private void next() {
        b.of(12, "The CELL to which a DROP would go in the next TICK (ahead of WIND; -1: OUT; its own: it is HELD).");
        PaneThread x = new PaneThread();
        x.drop(2, 0, 9);
        x.drop(2, 11, 9);
        x.set(1, 20);
        b.due("ahead of WIND", x.next(0), 12);
        x.set(1, 0);
        x.tick(14);
        b.due("to the last row", x.next(0), 180);
        x.tick(1);
        b.due("OUT at the first column", x.next(0), -1);
        b.due("OUT at the last column", x.next(1), -1);
        b.due("asking does nothing", x.count(0), 2);
        PaneThread held = new PaneThread();
        Histories.bar(held, 1, -1, 0);
        for (int kind = 0; kind < 8; kind++) {
            held.drop(kind, 11, 9);
            b.due("HELD, KIND " + kind, held.next(kind), 11);
        }
        PaneThread first = new PaneThread();
        Histories.bar(first, 1, -1, 0);
        first.drop(0, 0, 9);
        b.due("HELD on CELL 0", first.next(0), 0);
        PaneThread aside = new PaneThread();
        Histories.bar(aside, 1, -1, 0);
        aside.drop(3, 1, 9);
        aside.drop(3, 2, 9);
        b.due("on its own row to the right", aside.next(0), 2);
        b.due("on its own row to the left", aside.next(1), 1);
        PaneThread gone = new PaneThread();
        gone.drop(1, 5, 1);
        b.due("where it will be GONE", gone.next(0), 17);

        b.of(12, "BEYOND: no such number.");
        b.bounds("next(drop)", 0, 7, EIGHT, (y, v) -> y.next(v));

        b.of(12, "NONE.");
        b.refused("no such DROP", BUSY, y -> y.next(7), Checks.NONE);
        PaneThread none = new PaneThread();
        b.due("no DROPS at all", none.next(0), Checks.NONE);
        none.drop(1, 5, 1);
        none.tick(1);
        b.due("GONE", none.next(0), Checks.NONE);
        none.drop(2, 5, 1);
        none.tick(16);
        b.due("OUT", none.next(0), Checks.NONE);
    }

    private void pour() {
        b.of(13, "A DROP takes more WATER (1 to 99; 99 at most): what it has.");
        int[][] sums = {{1, 1, 2}, {1, 97, 98}, {1, 98, 99}, {1, 99, 99}, {98, 1, 99}, {98, 2, 99}, {99, 1, 99},
            {99, 99, 99}};
        for (int[] s : sums) {
            PaneThread x = new PaneThread();
            x.drop(0, 5, s[0]);
            b.due(s[1] + " more to " + s[0], x.pour(0, s[1]), s[2]);
            b.due("it has them", x.dropOf(0, 2), s[2]);
        }

        b.of(13, "BEYOND.");
        b.bounds("pour(drop, 1)", 0, 7, EIGHT, (y, v) -> y.pour(v, 1));
        b.bounds("pour(0, water)", 1, 99, (y, v) -> y.pour(0, v));
        b.refused("water 0 to no DROP", BUSY, y -> y.pour(7, 0), Checks.BEYOND);
        b.refused("water 100 to no DROP", BUSY, y -> y.pour(7, 100), Checks.BEYOND);
        b.refused("water 0", BUSY, y -> y.pour(0, 0), Checks.BEYOND);

        b.of(13, "NONE.");
        b.refused("no such DROP", BUSY, y -> y.pour(7, 1), Checks.NONE);
        PaneThread none = new PaneThread();
        b.due("no DROPS at all", none.pour(0, 99), Checks.NONE);
        b.due("none is made by that", none.count(0), 0);
        none.drop(1, 5, 1);
        none.tick(1);
        b.due("GONE", none.pour(0, 5), Checks.NONE);
        b.due("none comes back by that", none.count(0), 0);
    }

    private void shed() {
        b.of(14, "What was SHED at a column (-1: in all).");
        PaneThread x = new PaneThread();
        b.due("nothing in all", x.shed(-1), 0);
        x.drop(2, 0, 99);
        x.drop(2, 11, 1);
        x.tick(15);
        b.due("nothing ahead of going OUT", x.shed(-1), 0);
        x.tick(1);
        b.due("at the first column", x.shed(0), 99);
        b.due("at the last column", x.shed(11), 1);
        b.due("beside the first", x.shed(1), 0);
        b.due("beside the last", x.shed(10), 0);
        b.due("in all", x.shed(-1), 100);
        x.drop(2, 0, 99);
        x.tick(16);
        b.due("more than 99 together", x.shed(0), 198);
        x.drop(1, 3, 15);
        x.tick(16);
        b.due("nothing by what is GONE on the last row", x.shed(3), 0);

        b.of(14, "BEYOND.");
        b.bounds("shed(column)", -1, 11, (y, v) -> y.shed(v));
    }
}
