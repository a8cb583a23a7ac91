/** Boundary cases of the terms: texts and what they play. */
final class TextBoundaries {
    private static final String[] KINDS = {
        "going", "dropping", "straight", "standing", "swinging", "broken", "plaited", "again"};

    private final Boundaries b;

    TextBoundaries(Boundaries b) {
        this.b = b;
    }

    void all() {
        tape();
        tokens();
        text();
        deeds();
        faults();
        programs();
        played();
    }

    private void reads(String text) {
        PaneThread x = new PaneThread();
        b.due("'" + text + "'", Checks.programFrom(x, text), 0);
        b.due("'" + text + "', PROGRAMS", x.count(4), 1);
    }

    private void fault(String text, int place) {
        PaneThread x = new PaneThread();
        b.due("FAULT of '" + text + "'", Checks.programFrom(x, text), -1 - place);
        b.due("'" + text + "', no PROGRAM", x.count(4), 0);
        b.due("'" + text + "', no finding", x.status(-1), 0);
    }

    private void tape() {
        b.ofTerms("A TEXT is read from THE TAPE (bytes, at most 100).");
        reads("lean 5" + " ".repeat(94));
        reads(" ".repeat(94) + "lean 5");
        fault(" ".repeat(95) + "lean ", 100);
        fault("", 0);
        PaneThread x = new PaneThread();
        Checks.feedAll(x, " ".repeat(94) + "lean 5");
        b.due("no 101st byte", x.feed(' ', 1), Checks.FULL);
        b.due("it is read as it is", x.program(), 0);
        for (int value = 128; value < 256; value += 127) {
            fault("lean 5;" + (char) value, 7);
        }
    }

    private void tokens() {
        b.ofTerms("TOKENS, each as long as can be: WORDS (letters a to z), NUMBERS (digits, 999 at most), SIGNS ; and -;"
                + " blanks may stand between.");
        reads("going1at0");
        reads("going99at11;lean0;wind-20");
        reads("  going   99   at   11  ;  wind  -  20  ");
        fault("goingat 5", 0);
        fault("wait 5at", 6);
        fault("wa it 5", 0);
        fault("going 5 a t 3", 8);
        fault("wait 5 0", 7);
        fault("wait 1 2", 7);
        fault("wait 999", 5);
        fault("wait 1000", 5);
        fault("wait 9999999999999999999999", 5);
        fault("wait 4294967297", 5);
        reads("wait 0001");
        char[] none = {'`', '{', '@', '[', 'A', 'Z', '/', ':', '<', ',', '.', '+', '_', '\t', '\n', '\r', 0, 31, 33, 127, 128,
            160, 255};
        for (char c : none) {
            fault("wait 5" + c, 6);
            fault("wait" + c + "5", 4);
            fault(c + "wait 5", 0);
        }
    }

    private void text() {
        b.ofTerms("TEXT: DEED { ; DEED }, 12 DEEDS at most.");
        for (int n = 1; n <= 12; n++) {
            PaneThread x = new PaneThread();
            b.due(n + " DEEDS", Checks.programFrom(x, ProgramsBoundaries.repeat("lean 1", n)), 0);
            b.due("so many", x.programOf(0, 0), n);
        }
        fault(ProgramsBoundaries.repeat("lean 1", 13), 84);
        fault("", 0);
        fault(";", 0);
        fault(";lean 1", 0);
        fault("lean 1;", 7);
        fault("lean 1;;lean 1", 7);
        fault("lean 1 lean 1", 7);
        fault("lean 1-lean 1", 6);
    }

    private void deeds() {
        b.ofTerms("DEED: going, dropping, straight, standing, swinging, broken, plaited or again, a NUMBER (1 to 99: WATER), at,"
                + " a NUMBER (0 to 11: a column); wait and a NUMBER (1 to 50); lean and a NUMBER (0 to 9);"
                + " fade and a NUMBER (0 to 9); wind and a NUMBER (0 to 20), perhaps - ahead of it;"
                + " finger and a NUMBER (0 to 11).");
        for (String kind : KINDS) {
            int at = kind.length() + 1;
            reads(kind + " 1 at 0");
            reads(kind + " 99 at 11");
            fault(kind + " 0 at 0", at);
            fault(kind + " 100 at 0", at);
            fault(kind + " -1 at 0", at);
            fault(kind + " 1 at 12", at + 5);
            fault(kind + " 1 at -1", at + 5);
        }
        ranges("wait", 1, 50);
        ranges("lean", 0, 9);
        ranges("fade", 0, 9);
        ranges("finger", 0, 11);
        reads("wind 0");
        reads("wind 20");
        reads("wind -0");
        reads("wind -20");
        reads("wind - 20");
        fault("wind 21", 5);
        fault("wind -21", 6);
        fault("wind --1", 6);
        fault("wind 1-", 6);
    }

    private void ranges(String word, int least, int most) {
        int at = word.length() + 1;
        reads(word + " " + least);
        reads(word + " " + most);
        fault(word + " " + (most + 1), at);
        fault(word + " -1", at);
        fault(word + " -0", at);
        if (least > 0) {
            fault(word + " 0", at);
        }
    }

    private void faults() {
        b.ofTerms("FAULT: the place (from 0) of the first byte of the first TOKEN that can't stand there (a NUMBER that isn't as"
                + " told, another WORD, a byte that begins no TOKEN, a 13th DEED's WORD: its own), or how many bytes there are if"
                + " it ends too early.");
        fault("x", 0);
        fault("   x", 3);
        fault("at 5", 0);
        fault("goin 5 at 5", 0);
        fault("goings 5 at 5", 0);
        fault("boing 5 at 5", 0);
        fault("mean 5", 0);
        fault("lead 5", 0);
        fault("going 5 it 5", 8);
        fault("going 5 an 5", 8);
        fault("wind !5", 5);
        fault("wind ;5", 5);
        fault("going 5 att 5", 8);
        fault("going 5 going 5", 8);
        fault("going 5 5", 8);
        fault("going 5;", 7);
        fault("going going", 6);
        fault("going 5 at 12", 11);
        fault("going 0 at 12", 6);
        fault("lean !", 5);
        fault("lean 5 !", 7);
        fault("5", 0);
        fault("-", 0);
        fault("lean 10;lean 11", 5);
        fault("lean 1;lean 11", 12);
        String twelve = ProgramsBoundaries.repeat("lean 1", 12);
        fault(twelve + ";lean 1", 84);
        fault(twelve + ";   fade", 87);
        fault(twelve + ";x", 84);
        fault(twelve + ";5", 84);
        fault(twelve + ";!", 84);
        fault(twelve + "!", 83);
        fault(twelve + ";", 84);
        fault(twelve + ";  ", 86);
        String[] early = {"", " ", "going", "going 5", "going 5 at", "going 5 at ", "wait", "lean ", "fade", "wind", "wind -",
            "finger", "lean 1;", "lean 1; ", "lean 1;lean"};
        for (String text : early) {
            fault(text, text.length());
        }
        fault(" ".repeat(100), 100);
        fault("lean 1;" + " ".repeat(93), 100);
    }

    private void programs() {
        b.ofTerms("PROGRAMS 0, 1, .. (at most 6).");
        PaneThread x = new PaneThread();
        for (int i = 0; i < 6; i++) {
            b.due("number " + i, Checks.programFrom(x, "wait " + (i + 1)), i);
            b.due("no more yet", x.programOf(i + 1, 0), Checks.BEYOND);
        }
        b.due("no seventh", Checks.programFrom(x, "wait 7"), Checks.FULL);
        for (int i = 0; i < 6; i++) {
            b.due("each has its own DEEDS, " + i, x.programOf(i, 1), i + 1);
        }
        b.due("six", x.count(4), 6);
    }

    private void played() {
        b.ofTerms("To play one, its DEEDS are done one by one: a new DROP (nothing, if there are 8), so many TICKS, LEAN, FADE,"
                + " WIND, a FINGER.");
        for (int kind = 0; kind < 8; kind++) {
            PaneThread x = new PaneThread();
            Checks.programFrom(x, KINDS[kind] + " 99 at 11");
            b.due("one " + KINDS[kind], x.play(0), 1);
            b.due("its KIND", x.dropOf(0, 0), kind);
            b.due("its CELL", x.dropOf(0, 1), 11);
            b.due("its WATER", x.dropOf(0, 2), 99);
            b.due("its CELL is WET", x.cellOf(11, 1), 99);
        }
        PaneThread full = new PaneThread();
        for (int i = 0; i < 7; i++) {
            full.drop(2, i, 9);
        }
        Checks.programFrom(full, "again 5 at 7;going 6 at 8;lean 0");
        b.due("the eighth and no ninth", full.play(0), 8);
        b.due("the eighth", full.dropOf(7, 0), 7);
        b.due("where the ninth would be isn't WET", full.cellOf(8, 1), 0);
        b.due("no finding", full.status(-1), 0);
        b.due("the next DEED is done", full.set(0, 3), 0);
        PaneThread ends = new PaneThread();
        Checks.programFrom(ends, "lean 9;fade 0;wind -20;finger 0;wait 50");
        Checks.programFrom(ends, "lean 0;fade 9;wind 20;finger 11;wait 1");
        Checks.programFrom(ends, "wind -0");
        ends.play(0);
        b.due("TICKS", ends.count(7), 50);
        b.due("FADE 0 ahead of the TICKS", ends.cellOf(0, 1), 99);
        b.due("LEAN 9", ends.set(0, 3), 9);
        b.due("WIND -20", ends.set(1, 0), -20);
        b.due("FADE 0", ends.set(2, 1), 0);
        ends.play(1);
        b.due("TICKS then", ends.count(7), 51);
        b.due("FADE 9 ahead of the TICK", ends.cellOf(191, 1), 90);
        b.due("LEAN 0", ends.set(0, 3), 0);
        b.due("FADE 9", ends.set(2, 1), 9);
        ends.play(2);
        b.due("WIND 0 of -0", ends.set(1, 0), 0);
        oneDeedAlone("wait 9", 0, 0, 9, 3, 0, 1);
        oneDeedAlone("lean 9", 0, 0, 0, 9, 0, 1);
        oneDeedAlone("fade 9", 0, 0, 0, 3, 0, 9);
        oneDeedAlone("wind 9", 0, 0, 0, 3, 9, 1);
        oneDeedAlone("wind -9", 0, 0, 0, 3, -9, 1);
        oneDeedAlone("finger 9", 0, 16, 0, 3, 0, 1);
        oneDeedAlone("going 9 at 9", 1, 1, 0, 3, 0, 1);
        PaneThread order = new PaneThread();
        Checks.programFrom(order, "wait 16;straight 9 at 5");
        Checks.programFrom(order, "straight 9 at 5;wait 16");
        b.due("a DROP behind the TICKS is left", order.play(0), 1);
        b.due("a DROP ahead of the TICKS isn't", order.play(1), 0);
        b.due("both are SHED", order.shed(5), 18);
    }

    /** What a deed does, and that it does nothing else: drops, wet cells, ticks, lean, wind, fade. */
    private void oneDeedAlone(String deed, int... due) {
        PaneThread x = new PaneThread();
        Checks.programFrom(x, deed);
        b.due(deed + ", DROPS", x.play(0), due[0]);
        b.due(deed + ", WET CELLS", x.count(2), due[1]);
        b.due(deed + ", TICKS", x.count(7), due[2]);
        b.due(deed + ", LEAN", x.set(0, 0), due[3]);
        b.due(deed + ", WIND", x.set(1, 0), due[4]);
        b.due(deed + ", FADE", x.set(2, 0), due[5]);
    }
}
