import java.util.function.Consumer;

/** Promises 1 to 14: a new object, the pane, drops. */
public final class PaneAndDropsTest {
    private static final Checks T = new Checks();
    private static final Consumer<PaneThread> BUSY = Histories::busy;
    private static final Consumer<PaneThread> EIGHT = Histories::eightDrops;

    public static void main(String[] args) {
        newObject();
        cellOf();
        dirt();
        set();
        scatter();
        clean();
        finger();
        fades();
        drop();
        dropOf();
        tickOfOneDrop();
        tickStraightAndStanding();
        tickSwingingAndBroken();
        tickPlaitedAndAgain();
        tickOneByOne();
        tickWind();
        tickJoining();
        tickFading();
        tickFindings();
        next();
        pour();
        shed();
        T.end("PaneAndDropsTest");
    }

    private static void newObject() {
        PaneThread x = new PaneThread();
        int[] counts = {0, 0, 0, 0, 0, 0, 1, 0};
        for (int what = 0; what < 8; what++) {
            T.due("1: count(" + what + ")", x.count(what), counts[what]);
        }
        for (int which = -1; which < 7; which++) {
            T.due("1: status(" + which + ")", x.status(which), 0);
        }
        for (int column = -1; column < 12; column++) {
            T.due("1: shed(" + column + ")", x.shed(column), 0);
        }
        T.due("1: lean", x.set(0, 0), 3);
        T.due("1: wind", x.set(1, 5), 0);
        T.due("1: fade", x.set(2, 5), 1);
        T.due("1: z", x.seed(4), 1);
        T.due("1: no image", x.undo(), Checks.NONE);
        T.due("1: no image to tear", x.tear(), 0);
        T.due("1: no tape", x.wipe(), 0);
        T.due("1: no program", x.programOf(0, 0), Checks.BEYOND);
        for (int i = 0; i < 10; i++) {
            T.due("1: spot " + i, x.as(i, 0), Checks.MISSING);
        }
        for (int s = 0; s < 4; s++) {
            T.due("1: sheet " + s, x.write(s, 0, 0), Checks.MISSING);
        }
        for (int d = 0; d < 8; d++) {
            T.due("1: drop " + d, x.dropOf(d, 0), Checks.NONE);
        }
        PaneThread y = new PaneThread();
        for (int cell = 0; cell < 192; cell++) {
            T.due("1: dirt of " + cell, y.cellOf(cell, 0), 0);
            T.due("1: wet of " + cell, y.cellOf(cell, 1), 0);
        }
    }

    private static void cellOf() {
        PaneThread x = new PaneThread();
        x.dirt(30, 7);
        T.due("2: dirt", x.cellOf(30, 0), 7);
        T.due("2: wet", x.cellOf(30, 1), 0);
        T.due("2: hold of dry dirt", x.cellOf(30, 2), 21);
        T.due("2: no drop", x.cellOf(30, 3), -1);
        x.finger(6);
        T.due("2: wet under a finger", x.cellOf(30, 1), 99);
        T.due("2: hold less wet by 10, cut", x.cellOf(30, 2), 12);
        x.set(2, 9);
        x.tick(1);
        T.due("2: hold with 90 wet", x.cellOf(30, 2), 12);
        x.set(2, 1);
        x.tick(1);
        T.due("2: hold with 89 wet", x.cellOf(30, 2), 13);
        T.due("2: hold is 0 at least", x.cellOf(42, 2), 0);
        x.set(2, 9);
        x.tick(7);
        x.set(2, 1);
        x.dirt(54, 1);
        T.due("2: 26 wet", x.cellOf(54, 1), 26);
        T.due("2: 3 less 2 is 1", x.cellOf(54, 2), 1);
        x.finger(6);
        x.tick(10);
        x.dirt(42, 2);
        T.due("2: 6 less 8 is 0", x.cellOf(42, 2), 0);
        x.drop(0, 3, 5);
        x.drop(0, 4, 5);
        x.drop(0, 4, 5);
        T.due("2: the least drop", x.cellOf(4, 3), 1);
        T.due("2: the only drop", x.cellOf(3, 3), 0);
        T.due("2: last cell", x.cellOf(191, 3), -1);
        T.refused("2: cellOf(-1, 0)", BUSY, y -> y.cellOf(-1, 0), Checks.BEYOND);
        T.refused("2: cellOf(192, 0)", BUSY, y -> y.cellOf(192, 0), Checks.BEYOND);
        T.refused("2: cellOf(0, -1)", BUSY, y -> y.cellOf(0, -1), Checks.BEYOND);
        T.refused("2: cellOf(0, 4)", BUSY, y -> y.cellOf(0, 4), Checks.BEYOND);
        T.unchanged("2: cellOf(17, 2)", BUSY, y -> y.cellOf(17, 2));
    }

    private static void dirt() {
        PaneThread x = new PaneThread();
        T.due("3: dirt(0, 9)", x.dirt(0, 9), 0);
        T.due("3: dirt(0, 4)", x.dirt(0, 4), 9);
        T.due("3: dirt(191, 1)", x.dirt(191, 1), 0);
        T.due("3: dirt(0, 0)", x.dirt(0, 0), 4);
        T.due("3: dirt of 191", x.cellOf(191, 0), 1);
        T.due("3: dirt of 0", x.cellOf(0, 0), 0);
        T.refused("3: dirt(-1, 0)", BUSY, y -> y.dirt(-1, 0), Checks.BEYOND);
        T.refused("3: dirt(192, 0)", BUSY, y -> y.dirt(192, 0), Checks.BEYOND);
        T.refused("3: dirt(5, -1)", BUSY, y -> y.dirt(5, -1), Checks.BEYOND);
        T.refused("3: dirt(5, 10)", BUSY, y -> y.dirt(5, 10), Checks.BEYOND);
    }

    private static void set() {
        PaneThread x = new PaneThread();
        T.due("4: lean", x.set(0, 9), 3);
        T.due("4: lean again", x.set(0, 0), 9);
        T.due("4: lean 0", x.set(0, 0), 0);
        T.due("4: wind", x.set(1, 20), 0);
        T.due("4: wind below 0", x.set(1, -20), 20);
        T.due("4: wind again", x.set(1, 0), -20);
        T.due("4: fade", x.set(2, 0), 1);
        T.due("4: fade again", x.set(2, 9), 0);
        T.due("4: fade at last", x.set(2, 9), 9);
        int[][] wrong = {{-1, 0}, {3, 0}, {0, -1}, {0, 10}, {1, -21}, {1, 21}, {2, -1}, {2, 10}};
        for (int[] w : wrong) {
            T.refused("4: set(" + w[0] + ", " + w[1] + ")", BUSY, y -> y.set(w[0], w[1]), Checks.BEYOND);
        }
    }

    private static void scatter() {
        PaneThread x = new PaneThread();
        int z = 1;
        int[] dirt = new int[192];
        for (int n = 1; n <= 60; n += 59) {
            for (int i = 0; i < n; i++) {
                z = z * 1103515245 + 12345;
                int cell = (z >>> 8) % 192;
                z = z * 1103515245 + 12345;
                dirt[cell] = (z >>> 8) % 10;
            }
            int dirty = 0;
            for (int d : dirt) {
                dirty += d > 0 ? 1 : 0;
            }
            T.due("5: scatter(" + n + ")", x.scatter(n), dirty);
            T.due("5: z", x.count(6), z);
        }
        for (int cell = 0; cell < 192; cell++) {
            T.due("5: dirt of " + cell, x.cellOf(cell, 0), dirt[cell]);
        }
        x.seed(-77);
        x.scatter(1);
        T.due("5: z below 0 draws too", x.count(6), (-77 * 1103515245 + 12345) * 1103515245 + 12345);
        T.refused("5: scatter(0)", BUSY, y -> y.scatter(0), Checks.BEYOND);
        T.refused("5: scatter(-1)", BUSY, y -> y.scatter(-1), Checks.BEYOND);
        T.refused("5: scatter(61)", BUSY, y -> y.scatter(61), Checks.BEYOND);
    }

    private static void clean() {
        PaneThread x = new PaneThread();
        x.dirt(23, 1);
        x.dirt(24, 1);
        x.dirt(35, 9);
        x.dirt(36, 3);
        x.finger(0);
        T.due("6: clean(2)", x.clean(2), 2);
        T.due("6: no dirt", x.cellOf(24, 0), 0);
        T.due("6: no dirt at the end", x.cellOf(35, 0), 0);
        T.due("6: not wet", x.cellOf(24, 1), 0);
        T.due("6: row above stays", x.cellOf(23, 0), 1);
        T.due("6: row below stays", x.cellOf(36, 0), 3);
        T.due("6: row below stays wet", x.cellOf(36, 1), 99);
        T.due("6: clean(2) again", x.clean(2), 0);
        T.due("6: clean(0)", x.clean(0), 0);
        T.due("6: clean(15)", x.clean(15), 0);
        T.due("6: wet cells", x.count(2), 13);
        T.refused("6: clean(-1)", BUSY, y -> y.clean(-1), Checks.BEYOND);
        T.refused("6: clean(16)", BUSY, y -> y.clean(16), Checks.BEYOND);
    }

    private static void finger() {
        PaneThread x = new PaneThread();
        T.due("7: finger(11)", x.finger(11), 16);
        T.due("7: finger(11) again", x.finger(11), 0);
        T.due("7: first cell", x.cellOf(11, 1), 99);
        T.due("7: last cell", x.cellOf(191, 1), 99);
        T.due("7: other column", x.cellOf(190, 1), 0);
        T.due("7: next row", x.cellOf(12, 1), 0);
        x.clean(3);
        T.due("7: one wasn't wet", x.finger(11), 1);
        x.tick(1);
        T.due("7: 98 isn't 99", x.finger(11), 16);
        T.refused("7: finger(-1)", BUSY, y -> y.finger(-1), Checks.BEYOND);
        T.refused("7: finger(12)", BUSY, y -> y.finger(12), Checks.BEYOND);
    }

    private static void fades() {
        PaneThread x = new PaneThread();
        x.set(2, 0);
        T.due("8: not wet, fade 0", x.fades(5), 0);
        x.finger(5);
        T.due("8: wet, fade 0", x.fades(5), Checks.NONE);
        int[] due = {99, 50, 33, 25, 20, 17, 15, 13, 11};
        for (int fade = 1; fade <= 9; fade++) {
            x.set(2, fade);
            T.due("8: fade " + fade, x.fades(5), due[fade - 1]);
        }
        x.set(2, 8);
        x.tick(12);
        T.due("8: 3 wet", x.cellOf(5, 1), 3);
        T.due("8: one tick more", x.fades(5), 1);
        x.tick(1);
        T.due("8: dry", x.fades(5), 0);
        Consumer<PaneThread> held = y -> {
            Histories.busy(y);
            y.finger(3);
            y.set(2, 0);
        };
        T.refused("8: fades(3) with fade 0", held, y -> y.fades(3), Checks.NONE);
        T.refused("8: fades(-1)", held, y -> y.fades(-1), Checks.BEYOND);
        T.refused("8: fades(192)", BUSY, y -> y.fades(192), Checks.BEYOND);
        T.unchanged("8: fades(7)", BUSY, y -> y.fades(7));
    }

    private static void drop() {
        PaneThread x = new PaneThread();
        x.set(2, 0);
        for (int kind = 0; kind < 8; kind++) {
            T.due("9: drop " + kind, x.drop(kind, kind + 4, 10 + kind), kind);
            T.due("9: wet " + kind, x.cellOf(kind + 4, 1), 99);
            T.due("9: kind " + kind, x.dropOf(kind, 0), kind);
            T.due("9: cell " + kind, x.dropOf(kind, 1), kind + 4);
            T.due("9: water " + kind, x.dropOf(kind, 2), 10 + kind);
            T.due("9: steps " + kind, x.dropOf(kind, 3), 0);
        }
        T.due("9: not wet", x.cellOf(3, 1), 0);
        T.due("9: count", x.count(0), 8);

        PaneThread y = new PaneThread();
        y.drop(0, 0, 9);
        y.drop(1, 5, 1);
        y.drop(0, 10, 9);
        y.tick(1);
        T.due("9: number 1 is gone", y.count(0), 2);
        T.due("9: the least free number", y.drop(2, 7, 99), 1);
        T.due("9: then the next free", y.drop(2, 7, 1), 3);
        T.due("9: steps anew", y.dropOf(1, 3), 0);

        int[][] wrong = {{-1, 0, 1}, {8, 0, 1}, {0, -1, 1}, {0, 12, 1}, {0, 0, 0}, {0, 0, 100}, {0, 0, -5}};
        for (int[] w : wrong) {
            T.refused("9: drop(" + w[0] + ", " + w[1] + ", " + w[2] + ")", EIGHT,
                    z -> z.drop(w[0], w[1], w[2]), Checks.BEYOND);
        }
        T.refused("9: a ninth drop", EIGHT, z -> z.drop(0, 11, 5), Checks.FULL);
    }

    private static void dropOf() {
        PaneThread x = new PaneThread();
        x.drop(5, 7, 33);
        x.tick(2);
        T.due("10: kind", x.dropOf(0, 0), 5);
        T.due("10: cell", x.dropOf(0, 1), 31);
        T.due("10: water", x.dropOf(0, 2), 33);
        T.due("10: steps", x.dropOf(0, 3), 2);
        T.refused("10: dropOf(-1, 0)", BUSY, y -> y.dropOf(-1, 0), Checks.BEYOND);
        T.refused("10: dropOf(8, 0)", BUSY, y -> y.dropOf(8, 0), Checks.BEYOND);
        T.refused("10: dropOf(0, 4)", BUSY, y -> y.dropOf(0, 4), Checks.BEYOND);
        T.refused("10: dropOf(0, -1)", BUSY, y -> y.dropOf(0, -1), Checks.BEYOND);
        T.refused("10: dropOf(7, 4)", BUSY, y -> y.dropOf(7, 4), Checks.BEYOND);
        T.refused("10: dropOf(7, 3)", BUSY, y -> y.dropOf(7, 3), Checks.NONE);
        T.unchanged("10: dropOf(0, 0)", BUSY, y -> y.dropOf(0, 0));
    }

    private static void tickOfOneDrop() {
        PaneThread x = new PaneThread();
        x.drop(0, 5, 10);
        T.due("11: tick(1)", x.tick(1), 1);
        T.due("11: straight on a clean pane", x.dropOf(0, 1), 17);
        T.due("11: one step", x.dropOf(0, 3), 1);
        T.due("11: water stays", x.dropOf(0, 2), 10);
        T.due("11: came and faded", x.cellOf(17, 1), 98);
        T.due("11: where it was", x.cellOf(5, 1), 98);
        T.due("11: tick(14)", x.tick(14), 1);
        T.due("11: on the last row", x.dropOf(0, 1), 185);
        T.due("11: out", x.tick(1), 0);
        T.due("11: shed there", x.shed(5), 10);
        T.due("11: the last cell fades", x.cellOf(185, 1), 97);
        T.due("11: ticks", x.count(7), 16);

        landsOn("going: least hold right", 0, 5, 10, 18, 17, 2, 16, 1);
        landsOn("going: like ones, straight", 0, 5, 10, 17, 17, 1, 16, 1, 18, 1);
        landsOn("going: like ones, left", 0, 5, 10, 16, 17, 2, 16, 1, 18, 1);
        landsOn("going: least hold straight", 0, 5, 10, 17, 16, 1, 18, 1);
        landsOn("going: just can", 0, 5, 6, 17, 17, 3, 16, 9, 18, 9);
        landsOn("going: just can't", 0, 5, 5, 5, 17, 3, 16, 9, 18, 9);
        landsOn("going: no left at the edge", 0, 0, 10, 13, 12, 1);
        landsOn("going: no right at the edge", 0, 11, 10, 22, 23, 1);
        landsOn("going: held at the edge", 0, 0, 1, 0, 12, 2, 13, 2);
        landsOn("dropping: as going", 1, 5, 10, 18, 17, 2, 16, 1);

        PaneThread held = new PaneThread();
        held.dirt(16, 9);
        held.dirt(17, 9);
        held.dirt(18, 9);
        held.drop(0, 5, 20);
        T.due("11: a held drop stays", held.tick(2), 1);
        T.due("11: held on its cell", held.dropOf(0, 1), 5);
        T.due("11: held without steps", held.dropOf(0, 3), 0);
        T.due("11: its cell fades", held.cellOf(5, 1), 97);

        PaneThread gone = new PaneThread();
        gone.drop(1, 5, 3);
        gone.tick(2);
        T.due("11: dropping loses water", gone.dropOf(0, 2), 1);
        T.due("11: dropping is gone", gone.tick(1), 0);
        T.due("11: wet where it is gone", gone.cellOf(41, 1), 98);
        T.due("11: nothing is shed", gone.shed(-1), 0);

        PaneThread loses = new PaneThread();
        loses.drop(7, 5, 20);
        loses.drop(1, 9, 20);
        loses.tick(16);
        T.due("11: again loses water, none going out", loses.shed(5), 5);
        T.due("11: dropping loses none going out", loses.shed(9), 5);
    }

    /** One tick of a single drop; dirt comes as pairs of a cell and its dirt. */
    private static void landsOn(String label, int kind, int column, int water, int due, int... dirt) {
        PaneThread x = new PaneThread();
        for (int i = 0; i + 1 < dirt.length; i += 2) {
            x.dirt(dirt[i], dirt[i + 1]);
        }
        x.drop(kind, column, water);
        T.due("12: next, " + label, x.next(0), due);
        x.tick(1);
        T.due("11: tick, " + label, x.dropOf(0, 1), due);
        T.due("11: steps, " + label, x.dropOf(0, 3), due == column ? 0 : 1);
    }

    private static void tickStraightAndStanding() {
        landsOn("straight", 2, 5, 10, 17, 17, 4);
        landsOn("straight: held", 2, 5, 10, 5, 17, 5);
        landsOn("standing: straight", 3, 5, 10, 17, 17, 4);
        landsOn("standing: to the left", 3, 4, 10, 3, 16, 5);
        landsOn("standing: to the right", 3, 5, 10, 6, 17, 5);
        landsOn("standing: no left", 3, 0, 10, 0, 12, 5);
        landsOn("standing: no right", 3, 11, 10, 11, 23, 5);
        landsOn("standing: can't to the left", 3, 4, 10, 4, 16, 5, 3, 5);
        landsOn("standing: just can to the left", 3, 4, 9, 3, 16, 5, 3, 4);
        PaneThread x = new PaneThread();
        x.drop(3, 7, 4);
        x.tick(15);
        T.due("11: standing on the last row", x.dropOf(0, 1), 187);
        x.tick(1);
        T.due("11: standing goes out", x.shed(7), 4);
    }

    private static void tickSwingingAndBroken() {
        landsOn("swinging: left first", 4, 5, 10, 16);
        landsOn("swinging: no left", 4, 0, 10, 12);
        landsOn("swinging: no left, right is softer", 4, 0, 10, 13, 12, 1);
        landsOn("swinging: can't left", 4, 5, 10, 17, 16, 5);
        landsOn("swinging: left though it is hard", 4, 5, 10, 16, 16, 4);
        landsOn("broken: left first", 5, 5, 10, 16);
        int[] broken = {5, 4, 5, 5, 6, 5, 5, 4, 5, 5, 6, 5, 5, 4, 5, 5};
        PaneThread x = new PaneThread();
        x.drop(5, 5, 10);
        PaneThread y = new PaneThread();
        y.drop(4, 5, 10);
        for (int i = 0; i < 16; i++) {
            T.due("11: broken behind " + i, x.dropOf(0, 1), 12 * i + broken[i]);
            T.due("11: swinging behind " + i, y.dropOf(0, 1), 12 * i + 5 - i % 2);
            x.tick(1);
            y.tick(1);
        }
        T.due("11: broken out", x.shed(5), 10);
        T.due("11: swinging out", y.shed(4), 10);
        PaneThread edge = new PaneThread();
        edge.drop(4, 11, 10);
        edge.dirt(23 - 1, 9);
        edge.tick(2);
        T.due("11: swinging, no right on an odd step", edge.dropOf(0, 1), 35);
    }

    private static void tickPlaitedAndAgain() {
        landsOn("plaited: straight though it is hard", 6, 5, 10, 17, 17, 4);
        landsOn("plaited: as going", 6, 5, 10, 18, 17, 5, 16, 1);
        landsOn("plaited: held", 6, 5, 10, 5, 17, 5, 16, 5, 18, 5);
        landsOn("again: nothing wet", 7, 5, 10, 18, 17, 2, 16, 1);
        goesAgain("right is wet", 18, 6);
        goesAgain("left and right are like", 16, 6, 4);
        goesAgain("all are like", 17, 6, 4, 5);
        PaneThread x = new PaneThread();
        x.finger(6);
        x.tick(1);
        x.finger(4);
        x.drop(7, 5, 10);
        x.dirt(16, 4);
        x.tick(1);
        T.due("11: again, most wet, not least hold", x.dropOf(0, 1), 16);
        PaneThread little = new PaneThread();
        little.finger(6);
        little.tick(48);
        little.tick(50);
        little.drop(7, 5, 10);
        T.due("12: again, 1 wet is wet", little.next(0), 18);
        little.tick(1);
        T.due("11: again, 1 wet is wet", little.dropOf(0, 1), 18);
        PaneThread y = new PaneThread();
        y.finger(6);
        y.dirt(18, 9);
        y.drop(7, 5, 10);
        T.due("12: again, can't to the wet one", y.next(0), 17);
        y.pour(0, 5);
        T.due("12: again, just can", y.next(0), 18);
    }

    private static void goesAgain(String label, int due, int... fingers) {
        PaneThread x = new PaneThread();
        for (int column : fingers) {
            x.finger(column);
        }
        x.drop(7, 5, 10);
        T.due("12: again, " + label, x.next(0), due);
        x.tick(1);
        T.due("11: again, " + label, x.dropOf(0, 1), due);
        T.due("11: again loses water, " + label, x.dropOf(0, 2), 9);
    }

    private static void tickOneByOne() {
        PaneThread x = new PaneThread();
        x.drop(2, 4, 20);
        x.drop(7, 5, 10);
        T.due("11: wet by the one ahead", x.tick(1), 1);
        T.due("11: they joined", x.dropOf(0, 2), 29);
        PaneThread y = new PaneThread();
        y.drop(7, 5, 10);
        y.drop(2, 4, 20);
        T.due("11: not wet by the one behind", y.tick(1), 2);
        T.due("11: as dropping", y.dropOf(0, 1), 17);
        PaneThread z = new PaneThread();
        z.dirt(16, 2);
        z.dirt(17, 1);
        z.dirt(18, 9);
        z.drop(2, 4, 20);
        z.drop(0, 5, 10);
        T.due("11: softer by the one ahead", z.tick(1), 1);
    }

    private static void tickWind() {
        PaneThread x = new PaneThread();
        x.set(1, 5);
        x.drop(0, 5, 4);
        x.drop(0, 1, 5);
        x.drop(1, 9, 4);
        x.drop(0, 11, 4);
        x.tick(1);
        T.due("11: wind to the right", x.dropOf(0, 1), 18);
        T.due("11: wind makes no step", x.dropOf(0, 3), 1);
        T.due("11: wet ahead of wind", x.cellOf(17, 1), 98);
        T.due("11: wet behind wind", x.cellOf(18, 1), 98);
        T.due("11: not less than wind", x.dropOf(1, 1), 13);
        T.due("11: wind takes no water", x.dropOf(2, 2), 3);
        T.due("11: no cell to the right", x.dropOf(3, 1), 23);
        PaneThread y = new PaneThread();
        y.set(1, -5);
        y.dirt(12, 9);
        y.dirt(13, 9);
        y.dirt(14, 9);
        y.drop(0, 1, 4);
        y.drop(0, 6, 4);
        y.drop(0, 8, 5);
        y.dirt(17, 9);
        y.tick(1);
        T.due("11: a held one is blown too", y.dropOf(0, 1), 0);
        T.due("11: blown without a step", y.dropOf(0, 3), 0);
        T.due("11: blown where it can't go", y.dropOf(1, 1), 17);
        T.due("11: not less than wind below 0", y.dropOf(2, 1), 20);
        y.tick(1);
        T.due("11: no cell to the left", y.dropOf(0, 1), 0);
        PaneThread out = new PaneThread();
        out.drop(0, 5, 1);
        out.tick(15);
        out.set(1, 9);
        out.tick(1);
        T.due("11: out ahead of wind", out.shed(5), 1);
        PaneThread calm = new PaneThread();
        calm.drop(0, 5, 1);
        calm.tick(1);
        T.due("11: no wind", calm.dropOf(0, 1), 17);
    }

    private static void tickJoining() {
        PaneThread x = new PaneThread();
        x.drop(2, 5, 60);
        x.drop(0, 5, 50);
        x.drop(0, 5, 1);
        x.drop(0, 7, 8);
        T.due("11: joined", x.tick(1), 2);
        T.due("11: 99 at most", x.dropOf(0, 2), 99);
        T.due("11: kind of the least", x.dropOf(0, 0), 2);
        T.due("11: steps of the least", x.dropOf(0, 3), 1);
        T.due("11: the others are gone", x.dropOf(1, 0), Checks.NONE);
        T.due("11: another cell, another drop", x.dropOf(3, 2), 8);
        PaneThread y = new PaneThread();
        y.drop(0, 5, 10);
        y.drop(0, 6, 2);
        y.set(1, -3);
        T.due("11: joined behind wind", y.tick(1), 1);
        T.due("11: water together", y.dropOf(0, 2), 12);
        PaneThread z = new PaneThread();
        z.dirt(15, 9);
        z.dirt(16, 9);
        z.dirt(17, 9);
        z.drop(0, 4, 3);
        z.drop(2, 4, 4);
        z.drop(2, 4, 5);
        T.due("11: held ones join too", z.tick(1), 1);
        T.due("11: all their water", z.dropOf(0, 2), 12);
        PaneThread gone = new PaneThread();
        gone.drop(1, 5, 1);
        gone.drop(0, 5, 6);
        T.due("11: one that is gone takes nothing", gone.tick(1), 1);
        T.due("11: the other has its own", gone.dropOf(1, 2), 6);
    }

    private static void tickFading() {
        PaneThread x = new PaneThread();
        x.finger(3);
        x.set(2, 9);
        x.tick(10);
        T.due("11: 9 wet", x.cellOf(3, 1), 9);
        x.set(2, 5);
        x.tick(2);
        T.due("11: 0 at least", x.cellOf(3, 1), 0);
        x.finger(3);
        x.set(2, 0);
        x.tick(50);
        T.due("11: fade 0", x.cellOf(3, 1), 99);
        PaneThread y = new PaneThread();
        y.finger(0);
        y.finger(11);
        y.tick(1);
        T.due("11: the first cell fades", y.cellOf(0, 1), 98);
        T.due("11: the last cell fades", y.cellOf(191, 1), 98);
        T.due("11: ticks", x.count(7), 62);
    }

    private static void tickFindings() {
        T.refused("11: tick(0)", BUSY, y -> y.tick(0), Checks.BEYOND);
        T.refused("11: tick(-1)", BUSY, y -> y.tick(-1), Checks.BEYOND);
        T.refused("11: tick(51)", BUSY, y -> y.tick(51), Checks.BEYOND);
        T.changed("11: tick(1)", BUSY, y -> y.tick(1));
    }

    private static void next() {
        PaneThread x = new PaneThread();
        x.drop(0, 5, 10);
        x.set(1, 20);
        T.due("12: ahead of wind", x.next(0), 17);
        x.set(1, 0);
        x.tick(15);
        T.due("12: out", x.next(0), -1);
        PaneThread y = new PaneThread();
        y.drop(1, 5, 1);
        T.due("12: where it will be gone", y.next(0), 17);
        y.dirt(17, 9);
        y.dirt(16, 9);
        y.dirt(18, 9);
        T.due("12: held", y.next(0), 5);
        T.refused("12: next(-1)", BUSY, z -> z.next(-1), Checks.BEYOND);
        T.refused("12: next(8)", BUSY, z -> z.next(8), Checks.BEYOND);
        T.refused("12: next(7)", BUSY, z -> z.next(7), Checks.NONE);
        T.unchanged("12: next(0)", BUSY, z -> z.next(0));
    }

    private static void pour() {
        PaneThread x = new PaneThread();
        x.drop(0, 5, 10);
        T.due("13: pour(0, 1)", x.pour(0, 1), 11);
        T.due("13: pour(0, 87)", x.pour(0, 87), 98);
        T.due("13: pour(0, 2)", x.pour(0, 2), 99);
        T.due("13: pour(0, 99)", x.pour(0, 99), 99);
        T.due("13: water", x.dropOf(0, 2), 99);
        T.refused("13: pour(-1, 1)", BUSY, y -> y.pour(-1, 1), Checks.BEYOND);
        T.refused("13: pour(8, 1)", BUSY, y -> y.pour(8, 1), Checks.BEYOND);
        T.refused("13: pour(0, 0)", BUSY, y -> y.pour(0, 0), Checks.BEYOND);
        T.refused("13: pour(0, 100)", BUSY, y -> y.pour(0, 100), Checks.BEYOND);
        T.refused("13: pour(7, 100)", BUSY, y -> y.pour(7, 100), Checks.BEYOND);
        T.refused("13: pour(7, 1)", BUSY, y -> y.pour(7, 1), Checks.NONE);
    }

    private static void shed() {
        PaneThread x = new PaneThread();
        x.drop(2, 0, 10);
        x.drop(2, 11, 20);
        x.drop(1, 4, 16);
        x.tick(16);
        x.drop(2, 11, 5);
        x.tick(16);
        T.due("14: shed(0)", x.shed(0), 10);
        T.due("14: shed(11)", x.shed(11), 25);
        T.due("14: shed(4)", x.shed(4), 1);
        T.due("14: shed(5)", x.shed(5), 0);
        T.due("14: shed(-1)", x.shed(-1), 36);
        T.refused("14: shed(-2)", BUSY, y -> y.shed(-2), Checks.BEYOND);
        T.refused("14: shed(12)", BUSY, y -> y.shed(12), Checks.BEYOND);
        T.unchanged("14: shed(-1)", BUSY, y -> y.shed(-1));
    }
}
