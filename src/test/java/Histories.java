/** Calls that bring an object into a state in which changes would be seen. */
final class Histories {
    /** As many calls as busy makes, those of its text among them. */
    static final int CALLS_OF_BUSY = 30;

    private Histories() {
    }

    /** Drops 0 to 3, one program, spots 1 and 2, sheets 0 to 2, an image, bytes on the tape. */
    static void busy(PaneThread x) {
        x.seed(5);
        x.scatter(40);
        x.set(0, 2);
        x.set(1, -3);
        x.set(2, 4);
        x.drop(2, 5, 40);
        x.drop(4, 2, 39);
        x.drop(7, 9, 50);
        x.tick(3);
        x.drop(3, 7, 2);
        Checks.programFrom(x, "wait 2;going 3 at 4");
        x.hold(1, 0);
        x.hold(2, 1);
        x.sheet(0, 8, 3);
        x.write(0, 0, 5);
        x.write(0, 1, 4);
        x.sheet(1, 16, 40);
        x.write(1, 39, 7);
        x.sheet(2, 8, 0);
        x.image();
        x.finger(7);
        x.tick(1);
        Checks.feedAll(x, "lean 5");
    }

    static void eightDrops(PaneThread x) {
        busy(x);
        for (int i = 0; i < 8; i++) {
            x.drop(0, i, 10 + i);
        }
    }

    static void sixPrograms(PaneThread x) {
        busy(x);
        x.wipe();
        for (int i = 0; i < 5; i++) {
            Checks.programFrom(x, "fade 3");
        }
        Checks.feedAll(x, "wait");
    }

    static void fullTape(PaneThread x) {
        busy(x);
        x.wipe();
        for (int i = 0; i < 25; i++) {
            x.feed(Checks.pack("    "), 4);
        }
    }

    /** Dirt comes as pairs of a cell and its dirt. */
    static void dirty(PaneThread x, int... pairs) {
        for (int i = 0; i + 1 < pairs.length; i += 2) {
            x.dirt(pairs[i], pairs[i + 1]);
        }
    }

    /** A row of dirt 9 but for one column (-1: none), with the dirt that is told. */
    static void bar(PaneThread x, int row, int gap, int dirtOfGap) {
        for (int column = 0; column < 12; column++) {
            x.dirt(12 * row + column, column == gap ? dirtOfGap : 9);
        }
    }

    /** The most dirt on every cell. */
    static void hardest(PaneThread x) {
        x.sheet(0, 8, 40);
        for (int i = 0; i < 40; i++) {
            x.write(0, i, 9);
        }
        for (int cell = 0; cell < 192; cell += 40) {
            x.load(0, cell);
        }
    }

    /** Dirt that leads a going drop with enough water from every column to column 0. */
    static void funnel(PaneThread x) {
        x.sheet(0, 8, 24);
        for (int column = 0; column < 12; column++) {
            x.write(0, column, Math.min(9, column));
            x.write(0, 12 + column, Math.max(0, column - 2));
        }
        for (int cell = 12; cell < 192; cell += 24) {
            x.load(0, cell);
        }
    }

    /**
     * Columns that are so wet, as pairs of a column and its wet (1 to 99), the least wet first; fade is 1 then.
     * All other cells fade meanwhile, and drops go.
     */
    static void wetTo(PaneThread x, int... pairs) {
        for (int i = 0; i + 1 < pairs.length; i += 2) {
            x.finger(pairs[i]);
            // The next one begins with 99; the last one fades to its own wet, and all others with it.
            int wettest = i + 3 < pairs.length ? pairs[i + 3] : 99;
            fadeBy(x, wettest - pairs[i + 1]);
        }
    }

    private static void fadeBy(PaneThread x, int less) {
        x.set(2, 9);
        if (less >= 9) {
            x.tick(less / 9);
        }
        x.set(2, less % 9);
        if (less % 9 > 0) {
            x.tick(1);
        }
        x.set(2, 1);
    }
}
