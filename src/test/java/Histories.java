/** Calls that bring an object into a state in which changes would be seen. */
final class Histories {
    private Histories() {
    }

    /** Drops 0 to 3, one program, spots 1 and 2, sheets 0 to 2, an image, bytes on the tape. */
    static void busy(PaneThread x) {
        x.seed(5);
        x.scatter(40);
        x.set(0, 2);
        x.set(1, -3);
        x.set(2, 4);
        x.drop(2, 5, 40);
        x.drop(4, 2, 39);
        x.drop(7, 9, 50);
        x.tick(3);
        x.drop(3, 7, 2);
        Checks.programFrom(x, "wait 2;going 3 at 4");
        x.hold(1, 0);
        x.hold(2, 1);
        x.sheet(0, 8, 3);
        x.write(0, 0, 5);
        x.write(0, 1, 4);
        x.sheet(1, 16, 40);
        x.write(1, 39, 7);
        x.sheet(2, 8, 0);
        x.image();
        x.finger(7);
        x.tick(1);
        Checks.feedAll(x, "lean 5");
    }

    static void eightDrops(PaneThread x) {
        busy(x);
        for (int i = 0; i < 8; i++) {
            x.drop(0, i, 10 + i);
        }
    }

    static void sixPrograms(PaneThread x) {
        busy(x);
        x.wipe();
        for (int i = 0; i < 5; i++) {
            Checks.programFrom(x, "fade 3");
        }
        Checks.feedAll(x, "wait");
    }
}
