import java.util.function.Consumer;

/** Boundary cases of promises 15 to 19: the tape and programs. */
final class ProgramsBoundaries {
    private static final Consumer<PaneThread> BUSY = Histories::busy;
    private static final Consumer<PaneThread> SIX = Histories::sixPrograms;
    private static final Consumer<PaneThread> FULL_TAPE = Histories::fullTape;

    private final Boundaries b;

    ProgramsBoundaries(Boundaries b) {
        this.b = b;
    }

    void all() {
        feed();
        wipe();
        program();
        programWithFault();
        programOf();
        play();
    }

    static String repeat(String deed, int times) {
        StringBuilder text = new StringBuilder(deed);
        for (int i = 1; i < times; i++) {
            text.append(';').append(deed);
        }
        return text.toString();
    }

    private void feed() {
        b.of(15, "THE TAPE gets the n lowest bytes of a number behind it, the highest of these first (n 1 to 4):"
                + " how many it has.");
        PaneThread x = new PaneThread();
        b.due("four bytes, all of the number", x.feed(Checks.pack("wait"), 4), 4);
        b.due("one byte, three left out", x.feed(Checks.pack("xyz "), 1), 5);
        b.due("three bytes, one left out", x.feed(Checks.pack("x50;"), 3), 8);
        b.due("two bytes, two left out", x.feed(Checks.pack("xywa"), 2), 10);
        b.due("three more", x.feed(Checks.pack("xit "), 3), 13);
        b.due("one more", x.feed('7', 1), 14);
        b.due("the bytes, highest first", x.program(), 0);
        b.due("50 and 7 were read", x.programOf(0, 1), 57);
        b.due("a number below 0, its highest byte", x.feed(0x80000000 | Checks.pack("\0ait"), 4), 4);
        b.due("that begins no TOKEN", x.program(), -1);
        x.feed(' ', 1);
        b.due("bytes 0", x.feed(0, 4), 5);
        b.due("byte 0 is no blank", x.program(), -2);
        x.feed(Checks.pack("wait"), 4);
        b.due("-1 is byte 255", x.feed(-1, 1), 5);
        b.due("it ends a WORD and begins no TOKEN", x.program(), -5);
        PaneThread full = new PaneThread();
        for (int i = 1; i <= 25; i++) {
            b.due("four more", full.feed(Checks.pack("    "), 4), 4 * i);
        }

        b.of(15, "BEYOND: n.");
        b.bounds("feed(bytes, n)", 1, 4, (y, v) -> y.feed(Checks.pack("abcd"), v));
        b.bounds("feed(-1, n)", 1, 4, (y, v) -> y.feed(-1, v));
        b.refused("n 0, full", FULL_TAPE, y -> y.feed(0, 0), Checks.BEYOND);
        b.refused("n 5, full", FULL_TAPE, y -> y.feed(0, 5), Checks.BEYOND);
        b.refused("n far above, full", FULL_TAPE, y -> y.feed(0, Integer.MAX_VALUE), Checks.BEYOND);

        b.of(15, "FULL.");
        for (int n = 1; n <= 4; n++) {
            int count = n;
            b.refused("100 and " + n, FULL_TAPE, y -> y.feed(-1, count), Checks.FULL);
            for (int room = 1; room <= 4; room++) {
                PaneThread y = new PaneThread();
                for (int i = 0; i < 24; i++) {
                    y.feed(Checks.pack("    "), 4);
                }
                for (int i = room; i < 4; i++) {
                    y.feed(' ', 1);
                }
                int has = 100 - room;
                b.due(n + " more with room for " + room, y.feed(Checks.pack("abcd"), n), n <= room ? has + n : Checks.FULL);
                b.due("what it has then", y.count(5), n <= room ? has + n : has);
                b.due("the FAULT of what it has", y.program(), -1 - has);
            }
        }
    }

    private void wipe() {
        b.of(16, "THE TAPE is empty: how many it had.");
        PaneThread x = new PaneThread();
        b.due("none", x.wipe(), 0);
        x.feed('a', 1);
        b.due("one", x.wipe(), 1);
        b.due("none any more", x.wipe(), 0);
        for (int i = 0; i < 25; i++) {
            x.feed(-1, 4);
        }
        b.due("not one more", x.feed(0, 1), Checks.FULL);
        b.due("all 100", x.wipe(), 100);
        b.due("bytes", x.count(5), 0);
        for (int i = 0; i < 25; i++) {
            b.due("100 again", x.feed(Checks.pack("    "), 4), 4 * i + 4);
        }
        x.wipe();
        Checks.feedAll(x, "lean 4");
        b.due("nothing of it is left", x.program(), 0);
    }

    private void program() {
        b.of(17, "THE TAPE is a TEXT, and empty then: its PROGRAM's number.");
        PaneThread x = new PaneThread();
        for (int i = 0; i < 6; i++) {
            b.due("number " + i, Checks.programFrom(x, "wait " + (i + 1)), i);
            b.due("the tape is empty", x.count(5), 0);
            b.due("so many PROGRAMS", x.count(4), i + 1);
        }
        for (int i = 0; i < 6; i++) {
            b.due("TICKS of " + i, x.programOf(i, 1), i + 1);
        }
        PaneThread full = new PaneThread();
        StringBuilder text = new StringBuilder("wait 5");
        while (text.length() < 100) {
            text.append(' ');
        }
        b.due("100 bytes", Checks.programFrom(full, text.toString()), 0);
        String digits = "wait " + "0".repeat(94) + "5";
        b.due("100 bytes to the last one", Checks.programFrom(full, digits), 1);
        b.due("the last one was read", full.programOf(1, 1), 5);
        b.due("of six bytes", Checks.programFrom(full, "lean 0"), 2);
        b.due("of a tape that was longer", full.programOf(2, 0), 1);

        b.of(17, "FULL (THE TAPE stays).");
        b.refused("a seventh, with a FAULT", SIX, y -> y.program(), Checks.FULL);
        Consumer<PaneThread> good = y -> {
            Histories.sixPrograms(y);
            Checks.feedAll(y, " 5");
        };
        b.refused("a seventh", good, y -> y.program(), Checks.FULL);
        Consumer<PaneThread> empty = y -> {
            Histories.sixPrograms(y);
            y.wipe();
        };
        b.refused("a seventh, of an empty tape", empty, y -> y.program(), Checks.FULL);
        PaneThread y = new PaneThread();
        y.image();
        for (int i = 0; i < 6; i++) {
            Checks.programFrom(y, "lean 1");
        }
        Checks.feedAll(y, "wait 50");
        b.due("no seventh", y.program(), Checks.FULL);
        b.due("the tape stays", y.count(5), 7);
        y.undo();
        b.due("its bytes too", y.program(), 0);
        b.due("all of them", y.programOf(0, 1), 50);
    }

    private void programWithFault() {
        b.of(17, "With a FAULT: -1 less the FAULT (nothing changes but that THE TAPE is empty; no finding).");
        PaneThread x = new PaneThread();
        b.due("the least FAULT, of an empty tape", x.program(), -1);
        b.due("the least FAULT, of a byte", Checks.programFrom(x, "!"), -1);
        b.due("the greatest FAULT", Checks.programFrom(x, " ".repeat(100)), -101);
        b.due("the greatest FAULT of a TOKEN", Checks.programFrom(x, " ".repeat(99) + "x"), -100);
        b.due("no finding", x.status(-1), 0);
        b.due("no PROGRAM", x.count(4), 0);
        b.due("the tape is empty", x.count(5), 0);
        Consumer<PaneThread> wiped = y -> {
            Histories.busy(y);
            y.wipe();
        };
        b.unchanged("an empty tape", wiped, y -> y.program());
        b.unchanged("a FAULT behind good DEEDS", wiped, y -> {
            Checks.feedAll(y, "fade 9;wait 9;lean 9;going 9 at 9;wind");
            b.due("the FAULT", y.program(), -39);
        });
        b.unchanged("a FAULT in a 13th DEED", wiped, y -> {
            Checks.feedAll(y, repeat("fade 9", 13));
            b.due("the FAULT of a 13th DEED", y.program(), -85);
        });
        PaneThread five = new PaneThread();
        for (int i = 0; i < 5; i++) {
            Checks.programFrom(five, "wait 3");
        }
        b.due("a FAULT in place of the last", Checks.programFrom(five, "wait 3;wait"), -12);
        b.due("there is still room for it", Checks.programFrom(five, "wait 2"), 5);
        b.due("TICKS of the last", five.programOf(5, 1), 2);
    }

    private void programOf() {
        b.of(18, "Of a PROGRAM: how many DEEDS it has (what 0), how many TICKS it takes (1).");
        PaneThread x = new PaneThread();
        Checks.programFrom(x, "lean 0");
        Checks.programFrom(x, repeat("wait 50", 12));
        Checks.programFrom(x, "wait 1");
        Checks.programFrom(x, repeat("fade 0", 12));
        b.due("one DEED", x.programOf(0, 0), 1);
        b.due("no TICKS", x.programOf(0, 1), 0);
        b.due("twelve DEEDS", x.programOf(1, 0), 12);
        b.due("the most TICKS", x.programOf(1, 1), 600);
        b.due("the fewest TICKS but none", x.programOf(2, 1), 1);
        b.due("twelve DEEDS and no TICKS", x.programOf(3, 1), 0);
        b.due("asking plays nothing", x.count(7), 0);

        b.of(18, "BEYOND.");
        b.bounds("programOf(program, 0), one PROGRAM", 0, 0, (y, v) -> y.programOf(v, 0));
        b.bounds("programOf(program, 1), six PROGRAMS", 0, 5, SIX, (y, v) -> y.programOf(v, 1));
        b.bounds("programOf(0, what)", 0, 1, (y, v) -> y.programOf(0, v));
        PaneThread none = new PaneThread();
        b.due("no PROGRAMS", none.programOf(0, 0), Checks.BEYOND);
        Checks.programFrom(none, "wait 0");
        b.due("no PROGRAMS behind a FAULT", none.programOf(0, 0), Checks.BEYOND);
    }

    private void play() {
        b.of(19, "A PROGRAM is played: how many DROPS there are then.");
        PaneThread x = new PaneThread();
        Checks.programFrom(x, "lean 0");
        Checks.programFrom(x, repeat("wait 50", 12));
        Checks.programFrom(x, repeat("going 9 at 5", 7));
        b.due("no DROPS", x.play(0), 0);
        b.due("the most TICKS", x.play(1), 0);
        b.due("so many TICKS", x.count(7), 600);
        b.due("seven DROPS", x.play(2), 7);
        b.due("eight at most", x.play(2), 8);
        b.due("no finding for those that aren't made", x.status(-1), 0);
        b.due("none any more", x.play(1), 0);
        b.due("what was SHED", x.shed(5), 72);
        PaneThread y = new PaneThread();
        Checks.programFrom(y, "straight 99 at 0;straight 1 at 11;wait 15");
        b.due("on the last row", y.play(0), 2);
        b.due("played again, the first two are OUT", y.play(0), 2);
        b.due("at the first column", y.shed(0), 99);
        b.due("at the last column", y.shed(11), 1);

        b.of(19, "BEYOND.");
        b.bounds("play(program), one PROGRAM", 0, 0, (z, v) -> z.play(v));
        b.bounds("play(program), six PROGRAMS", 0, 5, SIX, (z, v) -> z.play(v));
        PaneThread none = new PaneThread();
        b.due("no PROGRAMS", none.play(0), Checks.BEYOND);
        b.refused("one that undo() took away", z -> {
            Histories.busy(z);
            Checks.programFrom(z, "lean 7");
            z.undo();
        }, z -> z.play(1), Checks.BEYOND);
    }
}
