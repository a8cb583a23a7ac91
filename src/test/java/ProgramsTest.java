import java.util.function.Consumer;

/** Promises 15 to 19: the tape and programs. */
public final class ProgramsTest {
    private static final Checks T = new Checks();
    private static final Consumer<PaneThread> BUSY = Histories::busy;
    private static final Consumer<PaneThread> SIX = Histories::sixPrograms;

    public static void main(String[] args) {
        feed();
        wipe();
        goodTexts();
        faults();
        thirteenDeeds();
        programFindings();
        programOf();
        play();
        playDeeds();
        T.end("ProgramsTest");
    }

    private static void feed() {
        PaneThread x = new PaneThread();
        T.due("15: four bytes", x.feed(Checks.pack("wait"), 4), 4);
        T.due("15: one byte", x.feed(' ', 1), 5);
        T.due("15: two bytes, more in front", x.feed(Checks.pack("xy12"), 2), 7);
        T.due("15: three bytes", x.feed(Checks.pack(";wa"), 3), 10);
        T.due("15: the rest", x.feed(Checks.pack("it 3"), 4), 14);
        T.due("15: highest first", x.program(), 0);
        T.due("15: both numbers were read", x.programOf(0, 1), 15);

        PaneThread y = new PaneThread();
        for (int i = 1; i <= 24; i++) {
            T.due("15: feed " + i, y.feed(-1, 4), 4 * i);
        }
        T.due("15: to 98", y.feed(0, 2), 98);
        T.due("15: not three more", y.feed(0, 3), Checks.FULL);
        T.due("15: nothing came", y.count(5), 98);
        T.due("15: to 100", y.feed(0, 2), 100);
        T.due("15: not one more", y.feed(0, 1), Checks.FULL);
        T.due("15: -1 less 0 for byte 255", y.program(), -1);

        Consumer<PaneThread> full = Histories::fullTape;
        T.refused("15: feed(0, 0)", full, z -> z.feed(0, 0), Checks.BEYOND);
        T.refused("15: feed(0, 5)", full, z -> z.feed(0, 5), Checks.BEYOND);
        T.refused("15: feed(0, -1)", BUSY, z -> z.feed(0, -1), Checks.BEYOND);
        T.refused("15: feed(0, 1)", full, z -> z.feed(0, 1), Checks.FULL);
    }

    private static void wipe() {
        PaneThread x = new PaneThread();
        T.due("16: empty", x.wipe(), 0);
        Checks.feedAll(x, "hello");
        T.due("16: wipe()", x.wipe(), 5);
        T.due("16: bytes", x.count(5), 0);
        T.due("16: again", x.wipe(), 0);
        Checks.feedAll(x, "wait 3");
        T.due("16: nothing is left ahead of it", x.program(), 0);
    }

    private static void goodTexts() {
        String[] good = {
            "going 5 at 3", "dropping 1 at 0", "straight 99 at 11", "standing 7 at 7", "swinging 7 at 7",
            "broken 7 at 7", "plaited 7 at 7", "again 7 at 7", "wait 1", "wait 50", "lean 0", "lean 9",
            "fade 0", "fade 9", "wind 0", "wind 20", "wind -20", "wind -0", "wind - 7", "finger 0", "finger 11",
            "going5at3", "wind-7", "  wait   5  ", "wait 5;lean 2", "wait 5 ; lean 2 ;fade 1", "wait 007",
        };
        for (String text : good) {
            PaneThread x = new PaneThread();
            T.due("17: '" + text + "'", Checks.programFrom(x, text), 0);
            T.due("17: tape behind '" + text + "'", x.count(5), 0);
            T.due("17: programs behind '" + text + "'", x.count(4), 1);
        }
        String[] words = {"going", "dropping", "straight", "standing", "swinging", "broken", "plaited", "again"};
        for (String word : words) {
            PaneThread y = new PaneThread();
            T.due("17: least water, " + word, Checks.programFrom(y, word + " 1 at 0"), 0);
            T.due("17: most water, " + word, Checks.programFrom(y, word + " 99 at 11"), 1);
            T.due("17: no water, " + word, Checks.programFrom(y, word + " 0 at 0"), -2 - word.length());
            T.due("17: too much water, " + word, Checks.programFrom(y, word + " 100 at 0"), -2 - word.length());
        }
        PaneThread x = new PaneThread();
        for (int i = 0; i < 6; i++) {
            T.due("17: program " + i, Checks.programFrom(x, "wait " + (i + 1)), i);
        }
        T.due("17: findings so far", x.status(-1), 0);
    }

    private static void faults() {
        fault("", 0);
        fault(" ", 1);
        fault("wait", 4);
        fault("wait  ", 6);
        fault("wait 0", 5);
        fault("wait 51", 5);
        fault("wait -3", 5);
        fault("wait;", 4);
        fault("wait wait", 5);
        fault("wait 5 wait 6", 7);
        fault("wait 5 6", 7);
        fault("wait 5;", 7);
        fault("wait 5; ", 8);
        fault("wait 5;;wait 6", 7);
        fault("wait 5;7", 7);
        fault("wait 5!", 6);
        fault("wait 5-", 6);
        fault("wait !", 5);
        fault("waits 5", 0);
        fault("wai 5", 0);
        fault("Wait 5", 0);
        fault("at 5", 0);
        fault(";", 0);
        fault("-", 0);
        fault("5", 0);
        fault("\t", 0);
        fault("wait\t5", 4);
        fault("  x", 2);
        fault("wait 999", 5);
        fault("wait 1000", 5);
        fault("wait 4294967301", 5);
        fault("wait 18446744073709551621", 5);
        fault("lean 10", 5);
        fault("lean -1", 5);
        fault("fade 10", 5);
        fault("wind 21", 5);
        fault("wind -21", 6);
        fault("wind --3", 6);
        fault("wind -", 6);
        fault("wind - ;", 7);
        fault("wind - x", 7);
        fault("finger 12", 7);
        fault("finger", 6);
        fault("going 0 at 3", 6);
        fault("going 100 at 3", 6);
        fault("going at 3", 6);
        fault("going 5 3", 8);
        fault("going 5 on 3", 8);
        fault("going 5 ;", 8);
        fault("going 5", 7);
        fault("going 5 at", 10);
        fault("going 5 at 12", 11);
        fault("going 5 at -1", 11);
        fault("going 5 at at", 11);
        fault("again 5 att 3", 8);
        fault("plaited 5 a 3", 10);
        fault("boing 5 at 3", 0);
        fault("bait 5", 0);
        fault("wait 5; going", 13);
        fault("wait 5; gone 5", 8);
        fault("wait 5; " + (char) 233, 8);
        fault("" + (char) 255, 0);
        fault("wait 5;" + (char) 0, 7);
    }

    private static void fault(String text, int place) {
        PaneThread x = new PaneThread();
        Checks.programFrom(x, "lean 4; wait 9");
        T.due("17: fault of '" + text + "'", Checks.programFrom(x, text), -1 - place);
        T.due("17: tape behind '" + text + "'", x.count(5), 0);
        T.due("17: programs behind '" + text + "'", x.count(4), 1);
        T.due("17: program 0 behind '" + text + "'", x.programOf(0, 1), 9);
        T.due("17: no finding with '" + text + "'", x.status(-1), 0);
        T.due("17: the next behind '" + text + "'", Checks.programFrom(x, "lean 1"), 1);
        T.due("17: its deeds", x.programOf(1, 0), 1);
    }

    private static void thirteenDeeds() {
        String twelve = "wait 1";
        for (int i = 1; i < 12; i++) {
            twelve += ";wait 1";
        }
        PaneThread x = new PaneThread();
        T.due("17: twelve deeds", Checks.programFrom(x, twelve), 0);
        T.due("17: all twelve", x.programOf(0, 0), 12);
        fault(twelve + ";wait 1", 84);
        fault(twelve + "; lean 1", 85);
        fault(twelve + ";x", 84);
        fault(twelve + ";", 84);
        fault(twelve + ";  ", 86);
        fault(twelve + ";;", 84);
        fault(twelve + " lean 1", 84);
    }

    private static void programFindings() {
        T.refused("17: a seventh program", SIX, x -> x.program(), Checks.FULL);
        PaneThread x = new PaneThread();
        Histories.sixPrograms(x);
        T.due("17: full ahead of a fault", x.program(), Checks.FULL);
        T.due("17: the tape stays", x.count(5), 4);
        T.due("17: its bytes stay", Checks.feedAll(x, " 5"), 6);
        x.undo();
        T.due("17: read behind undo", x.program(), 1);
        T.due("17: as it was", x.programOf(1, 1), 5);
    }

    private static void programOf() {
        PaneThread x = new PaneThread();
        Checks.programFrom(x, "wait 50; lean 3; going 40 at 3; wait 7; wind -9");
        Checks.programFrom(x, "finger 9");
        T.due("18: deeds", x.programOf(0, 0), 5);
        T.due("18: ticks", x.programOf(0, 1), 57);
        T.due("18: deeds of the other", x.programOf(1, 0), 1);
        T.due("18: no ticks", x.programOf(1, 1), 0);
        T.refused("18: programOf(-1, 0)", BUSY, y -> y.programOf(-1, 0), Checks.BEYOND);
        T.refused("18: programOf(1, 0)", BUSY, y -> y.programOf(1, 0), Checks.BEYOND);
        T.refused("18: programOf(0, 2)", BUSY, y -> y.programOf(0, 2), Checks.BEYOND);
        T.refused("18: programOf(0, -1)", BUSY, y -> y.programOf(0, -1), Checks.BEYOND);
        T.refused("18: programOf(6, 0)", SIX, y -> y.programOf(6, 0), Checks.BEYOND);
        T.unchanged("18: programOf(0, 1)", BUSY, y -> y.programOf(0, 1));
    }

    private static void play() {
        PaneThread x = new PaneThread();
        Checks.programFrom(x, "going 10 at 5; wait 3; lean 7; fade 4; wind -6; finger 2; dropping 4 at 0");
        T.due("19: play(0)", x.play(0), 2);
        T.due("19: the first drop went", x.dropOf(0, 1), 41);
        T.due("19: the last didn't", x.dropOf(1, 1), 0);
        T.due("19: its kind", x.dropOf(1, 0), 1);
        T.due("19: its water", x.dropOf(1, 2), 4);
        T.due("19: ticks", x.count(7), 3);
        T.due("19: finger", x.cellOf(14, 1), 99);
        T.due("19: faded as it was then", x.cellOf(41, 1), 98);
        T.due("19: lean", x.set(0, 3), 7);
        T.due("19: wind", x.set(1, 0), -6);
        T.due("19: fade", x.set(2, 1), 4);
        T.due("19: once more", x.play(0), 4);
        T.refused("19: play(-1)", BUSY, y -> y.play(-1), Checks.BEYOND);
        T.refused("19: play(1)", BUSY, y -> y.play(1), Checks.BEYOND);
        T.refused("19: play(6)", SIX, y -> y.play(6), Checks.BEYOND);
    }

    private static void playDeeds() {
        PaneThread x = new PaneThread();
        String[] words = {"going", "dropping", "straight", "standing", "swinging", "broken", "plaited", "again"};
        for (int kind = 0; kind < 8; kind++) {
            PaneThread y = new PaneThread();
            Checks.programFrom(y, words[kind] + " 6 at " + (kind + 2));
            T.due("19: play " + words[kind], y.play(0), 1);
            T.due("19: kind of " + words[kind], y.dropOf(0, 0), kind);
            T.due("19: cell of " + words[kind], y.dropOf(0, 1), kind + 2);
            T.due("19: wet below " + words[kind], y.cellOf(kind + 2, 1), 99);
        }
        for (int i = 0; i < 8; i++) {
            x.drop(0, 0, 9);
        }
        Checks.programFrom(x, "going 5 at 7; wind 20");
        T.due("19: with eight drops", x.play(0), 8);
        T.due("19: nothing is wet then", x.cellOf(7, 1), 0);
        T.due("19: no finding", x.status(-1), 0);
        T.due("19: what follows is done", x.set(1, 0), 20);
        PaneThread y = new PaneThread();
        Checks.programFrom(y, "wait 2;going 5 at 7;wait 9;wait");
        Checks.programFrom(y, "wait 3");
        T.due("18: no ticks of a text with a fault", y.programOf(0, 1), 3);
        T.due("19: no deeds of a text with a fault", y.play(0), 0);
        T.due("19: nor its ticks", y.count(7), 3);
        Checks.programFrom(x, "wait 50;wait 50;wait 50;wait 50");
        T.due("19: many ticks", x.play(1), 0);
        T.due("19: so many", x.count(7), 200);
        T.due("19: joined and shed", x.shed(0), 72);
    }
}
