import java.util.Arrays;

/**
 * A thread of water on a pane: cells with dirt and wet, drops of kinds that go
 * down, programs from texts, paths and ways. The document of the project says
 * what each call answers; its words are used here in small letters.
 */
public final class PaneThread {
    private static final int LOW = -1000001;

    private static final int BEYOND = 0;
    private static final int FULL = 1;
    private static final int KIND = 2;
    private static final int NONE = 3;
    private static final int MISSING = 5;
    private static final int SIZE = 6;
    private static final int FINDINGS = 7;

    private static final int ROWS = 16;
    private static final int COLUMNS = 12;
    private static final int CELLS = ROWS * COLUMNS;
    private static final int MOST_DIRT = 9;
    private static final int MOST_WET = 99;
    private static final int MOST_LEAN = 9;
    private static final int MOST_WIND = 20;
    private static final int MOST_FADE = 9;
    private static final int MOST_TICKS = 50;
    private static final int MOST_SCATTERED = 60;

    private static final int GOING = 0;
    private static final int DROPPING = 1;
    private static final int STRAIGHT = 2;
    private static final int STANDING = 3;
    private static final int SWINGING = 4;
    private static final int BROKEN = 5;
    private static final int PLAITED = 6;
    private static final int AGAIN = 7;
    private static final int KINDS = 8;
    /** The kind above each kind; nothing is above going ones. */
    private static final int[] ABOVE = {-1, GOING, GOING, STRAIGHT, GOING, SWINGING, STRAIGHT, DROPPING};

    private static final int DROPS = 8;
    private static final int MOST_WATER = 99;
    private static final int SPOTS = 10;
    private static final int NOTHING = -1;

    /** Where a drop of the last row goes; no cell has this number. */
    private static final int OUT = -1;
    /** Told in place of a cell where there is none. */
    private static final int NOWHERE = -2;
    /** Straight down, left down, right down, in the order in which like ones are taken. */
    private static final int SIDES = 3;

    private static final int MOST_STEPS = 64;
    private static final int READER_WATER = 20;

    private static final int TAPE_BYTES = 100;
    private static final int PROGRAMS = 6;
    private static final int MOST_DEEDS = 12;
    private static final int NO_FAULT = -1;

    /** Deeds 0 to 7 make drops of these kinds. */
    private static final int WAIT = 8;
    private static final int LEAN = 9;
    private static final int FADE = 10;
    private static final int WIND = 11;
    private static final int FINGER = 12;
    private static final int DEED_WORDS = 13;
    private static final int[] LEAST_OF_DEED = {1, 1, 1, 1, 1, 1, 1, 1, 1, 0, 0, 0, 0};
    private static final int[] MOST_OF_DEED = {99, 99, 99, 99, 99, 99, 99, 99, 50, 9, 9, 20, 11};

    private static final int SHEETS = 4;
    private static final int SHEET_NUMBERS = 40;

    private final Findings findings;
    private final Scene scene;
    private final Scene kept;
    private boolean isKept;
    private final Tape tape;
    private final Reader reader;
    private final Sheet[] sheets;
    /** A pane on which calls try what isn't so, that the true one stays as it is. */
    private final Pane guess;
    private final Walk walk;
    private final Walk otherWalk;
    private final Ways descent;

    public PaneThread() {
        findings = new Findings();
        scene = new Scene();
        kept = new Scene();
        isKept = false;
        tape = new Tape();
        reader = new Reader(tape);
        sheets = new Sheet[SHEETS];
        for (int s = 0; s < SHEETS; s++) {
            sheets[s] = new Sheet();
        }
        guess = new Pane();
        walk = new Walk();
        otherWalk = new Walk();
        descent = new Ways();
    }

    // ---- the pane

    public int cellOf(int cell, int what) {
        if (!isCell(cell) || !isWithin(what, 0, 3)) {
            return findings.tell(BEYOND);
        }
        switch (what) {
            case 0:
                return scene.pane.dirt[cell];
            case 1:
                return scene.pane.wet[cell];
            case 2:
                return scene.pane.holdOf(cell);
            default:
                return scene.drops.leastOn(cell);
        }
    }

    public int dirt(int cell, int v) {
        if (!isCell(cell) || !isWithin(v, 0, MOST_DIRT)) {
            return findings.tell(BEYOND);
        }
        int was = scene.pane.dirt[cell];
        scene.pane.dirt[cell] = v;
        return was;
    }

    public int set(int what, int v) {
        if (!isSetting(what, v)) {
            return findings.tell(BEYOND);
        }
        Pane pane = scene.pane;
        int was;
        switch (what) {
            case 0:
                was = pane.lean;
                pane.lean = v;
                return was;
            case 1:
                was = pane.wind;
                pane.wind = v;
                return was;
            default:
                was = pane.fade;
                pane.fade = v;
                return was;
        }
    }

    public int scatter(int n) {
        if (!isWithin(n, 1, MOST_SCATTERED)) {
            return findings.tell(BEYOND);
        }
        for (int i = 0; i < n; i++) {
            int cell = scene.draw() % CELLS;
            scene.pane.dirt[cell] = scene.draw() % (MOST_DIRT + 1);
        }
        return countAbove0(scene.pane.dirt);
    }

    public int clean(int row) {
        if (!isRow(row)) {
            return findings.tell(BEYOND);
        }
        return scene.pane.cleanRow(row);
    }

    public int finger(int column) {
        if (!isColumn(column)) {
            return findings.tell(BEYOND);
        }
        return scene.pane.wetColumn(column);
    }

    public int fades(int cell) {
        if (!isCell(cell)) {
            return findings.tell(BEYOND);
        }
        int wet = scene.pane.wet[cell];
        int fade = scene.pane.fade;
        if (wet == 0) {
            return 0;
        }
        if (fade <= 0) {
            return findings.tell(NONE);
        }
        return (wet + fade - 1) / fade;
    }

    // ---- drops

    public int drop(int kind, int column, int water) {
        if (!isStart(kind, column, water)) {
            return findings.tell(BEYOND);
        }
        int made = scene.makeDrop(kind, column, water);
        return made == NOTHING ? findings.tell(FULL) : made;
    }

    public int dropOf(int drop, int what) {
        if (!isDropNumber(drop) || !isWithin(what, 0, 3)) {
            return findings.tell(BEYOND);
        }
        Drops drops = scene.drops;
        if (!drops.isThere(drop)) {
            return findings.tell(NONE);
        }
        switch (what) {
            case 0:
                return drops.kind[drop];
            case 1:
                return drops.cell[drop];
            case 2:
                return drops.water[drop];
            default:
                return drops.steps[drop];
        }
    }

    public int tick(int n) {
        if (!isWithin(n, 1, MOST_TICKS)) {
            return findings.tell(BEYOND);
        }
        scene.passTicks(n);
        return scene.drops.howMany();
    }

    public int next(int drop) {
        if (!isDropNumber(drop)) {
            return findings.tell(BEYOND);
        }
        Drops drops = scene.drops;
        if (!drops.isThere(drop)) {
            return findings.tell(NONE);
        }
        return scene.pane.goal(drops.kind[drop], drops.cell[drop], drops.water[drop], drops.steps[drop]);
    }

    public int pour(int drop, int water) {
        if (!isDropNumber(drop) || !isWater(water)) {
            return findings.tell(BEYOND);
        }
        if (!scene.drops.isThere(drop)) {
            return findings.tell(NONE);
        }
        scene.drops.addWater(drop, water);
        return scene.drops.water[drop];
    }

    public int shed(int column) {
        if (column == -1) {
            return sumOf(scene.shedAt);
        }
        if (!isColumn(column)) {
            return findings.tell(BEYOND);
        }
        return scene.shedAt[column];
    }

    // ---- programs

    public int feed(int bytes, int n) {
        if (!isWithin(n, 1, 4)) {
            return findings.tell(BEYOND);
        }
        if (tape.length + n > TAPE_BYTES) {
            return findings.tell(FULL);
        }
        tape.append(bytes, n);
        return tape.length;
    }

    public int wipe() {
        int had = tape.length;
        tape.length = 0;
        return had;
    }

    public int program() {
        Programs programs = scene.programs;
        if (programs.made >= PROGRAMS) {
            return findings.tell(FULL);
        }
        int fault = reader.readText(programs);
        tape.length = 0;
        return fault == NO_FAULT ? programs.made - 1 : -1 - fault;
    }

    public int programOf(int program, int what) {
        if (!isProgram(program) || !isWithin(what, 0, 1)) {
            return findings.tell(BEYOND);
        }
        return what == 0 ? scene.programs.sizes[program] : scene.programs.ticksOf(program);
    }

    public int play(int program) {
        if (!isProgram(program)) {
            return findings.tell(BEYOND);
        }
        int deeds = scene.programs.sizes[program];
        for (int i = 0; i < deeds; i++) {
            scene.perform(program * MOST_DEEDS + i);
        }
        return scene.drops.howMany();
    }

    // ---- paths

    public int path(int kind, int column, int water, int what) {
        if (!isStart(kind, column, water) || !isWithin(what, 0, 3)) {
            return findings.tell(BEYOND);
        }
        walk.follow(scene.pane, kind, column, water);
        switch (what) {
            case 0:
                return walk.outColumn;
            case 1:
                return walk.steps;
            case 2:
                return walk.lastCell();
            default:
                return walk.water;
        }
    }

    public int along(int kind, int column, int water, int i) {
        if (!isStart(kind, column, water) || !isWithin(i, 0, MOST_STEPS)) {
            return findings.tell(BEYOND);
        }
        walk.follow(scene.pane, kind, column, water);
        int cell = walk.cellBehind(i);
        return cell == NOWHERE ? findings.tell(NONE) : cell;
    }

    public int least(int kind, int column, boolean dry) {
        if (!isKind(kind) || !isColumn(column)) {
            return findings.tell(BEYOND);
        }
        guess.become(scene.pane);
        if (dry) {
            Arrays.fill(guess.wet, 0);
        }
        for (int water = 1; water <= MOST_WATER; water++) {
            walk.follow(guess, kind, column, water);
            if (walk.isOut()) {
                return water;
            }
        }
        return findings.tell(NONE);
    }

    public int basin(int kind, int water, int column) {
        if (!isStart(kind, column, water)) {
            return findings.tell(BEYOND);
        }
        int starts = 0;
        for (int from = 0; from < COLUMNS; from++) {
            walk.follow(scene.pane, kind, from, water);
            if (walk.outColumn == column) {
                starts |= 1 << from;
            }
        }
        return starts;
    }

    public int ways(int kind, int water) {
        if (!isKind(kind) || !isWater(water)) {
            return findings.tell(BEYOND);
        }
        int ends = 0;
        for (int from = 0; from < COLUMNS; from++) {
            walk.follow(scene.pane, kind, from, water);
            if (walk.isOut()) {
                ends |= 1 << walk.outColumn;
            }
        }
        return ends;
    }

    public int soonest(int kind, int column, int water) {
        if (!isStart(kind, column, water)) {
            return findings.tell(BEYOND);
        }
        guess.become(scene.pane);
        int best = NOTHING;
        int fewest = MOST_STEPS + 1;
        for (int lean = 0; lean <= MOST_LEAN; lean++) {
            guess.lean = lean;
            walk.follow(guess, kind, column, water);
            if (walk.isOut() && walk.steps < fewest) {
                fewest = walk.steps;
                best = lean;
            }
        }
        return best == NOTHING ? findings.tell(NONE) : best;
    }

    public int meet(int kind, int one, int other, int water) {
        if (!isStart(kind, one, water) || !isColumn(other) || one == other) {
            return findings.tell(BEYOND);
        }
        walk.follow(scene.pane, kind, one, water);
        otherWalk.follow(scene.pane, kind, other, water);
        for (int i = 0; i <= MOST_STEPS; i++) {
            int cell = walk.cellBehind(i);
            if (cell != NOWHERE && cell == otherWalk.cellBehind(i)) {
                return i;
            }
        }
        return findings.tell(NONE);
    }

    public int edge(int cell, int kind, int column) {
        if (!isCell(cell) || !isKind(kind) || !isColumn(column)) {
            return findings.tell(BEYOND);
        }
        guess.become(scene.pane);
        for (int dirt = MOST_DIRT; dirt >= 0; dirt--) {
            guess.dirt[cell] = dirt;
            walk.follow(guess, kind, column, READER_WATER);
            if (walk.isOut()) {
                return dirt;
            }
        }
        return findings.tell(NONE);
    }

    // ---- ways

    public int soft(int what) {
        if (!isWithin(what, 0, 2)) {
            return findings.tell(BEYOND);
        }
        descent.reckon(scene.pane, true);
        int begin = descent.leastStart();
        switch (what) {
            case 0:
                return descent.rest[begin];
            case 1:
                return begin;
            default:
                return descent.endFrom(scene.pane, begin);
        }
    }

    public int need() {
        descent.reckon(scene.pane, false);
        return descent.rest[descent.leastStart()];
    }

    public int open(int row, int water) {
        if (!isRow(row) || !isWater(water)) {
            return findings.tell(BEYOND);
        }
        int push = water + scene.pane.lean;
        int lets = 0;
        for (int column = 0; column < COLUMNS; column++) {
            if (scene.pane.holdOf(row * COLUMNS + column) <= push) {
                lets++;
            }
        }
        return lets;
    }

    public int seed(int v) {
        int was = scene.z;
        scene.z = v;
        return was;
    }

    // ---- spots, sheets

    public int hold(int spot, int drop) {
        if (!isSpot(spot) || !isWithin(drop, NOTHING, DROPS - 1)) {
            return findings.tell(BEYOND);
        }
        if (drop != NOTHING && !scene.drops.isThere(drop)) {
            return findings.tell(NONE);
        }
        scene.spots[spot] = drop;
        return 1;
    }

    public int as(int spot, int kind) {
        if (!isSpot(spot) || !isKind(kind)) {
            return findings.tell(BEYOND);
        }
        int drop = scene.spots[spot];
        if (!isDropNumber(drop) || !scene.drops.isThere(drop)) {
            return findings.tell(MISSING);
        }
        return isUnder(scene.drops.kind[drop], kind) ? drop : findings.tell(KIND);
    }

    public int sheet(int s, int bits, int n) {
        if (!isSheet(s) || !isWidth(bits)) {
            return findings.tell(BEYOND);
        }
        if (n < 0) {
            return findings.tell(SIZE);
        }
        if (n > SHEET_NUMBERS) {
            return findings.tell(BEYOND);
        }
        int size = bits == 0 ? 0 : n;
        sheets[s].begin(bits, size);
        return size;
    }

    public int write(int s, int i, int v) {
        if (!isSheet(s)) {
            return findings.tell(BEYOND);
        }
        Sheet sheet = sheets[s];
        if (sheet.isMissing()) {
            return findings.tell(MISSING);
        }
        if (!isWithin(i, 0, sheet.size - 1)) {
            return findings.tell(BEYOND);
        }
        sheet.put(i, v);
        return 1;
    }

    public int copy(int s, int from, int t, int to, int n) {
        if (!isSheet(s) || !isSheet(t)) {
            return findings.tell(BEYOND);
        }
        Sheet source = sheets[s];
        Sheet goal = sheets[t];
        if (source.isMissing() || goal.isMissing()) {
            return findings.tell(MISSING);
        }
        if (source.bits != goal.bits) {
            return findings.tell(KIND);
        }
        if (!source.hasStretch(from, n) || !goal.hasStretch(to, n)) {
            return findings.tell(BEYOND);
        }
        // arraycopy takes all numbers as they were, also within one sheet.
        System.arraycopy(source.numbers, from, goal.numbers, to, n);
        return n;
    }

    public int load(int s, int cell) {
        if (!isSheet(s)) {
            return findings.tell(BEYOND);
        }
        Sheet sheet = sheets[s];
        if (sheet.isMissing()) {
            return findings.tell(MISSING);
        }
        if (!isCell(cell)) {
            return findings.tell(BEYOND);
        }
        int came = 0;
        while (came < sheet.size && cell + came < CELLS && isWithin(sheet.numbers[came], 0, MOST_DIRT)) {
            scene.pane.dirt[cell + came] = sheet.numbers[came];
            came++;
        }
        return came;
    }

    public int judge(int s, int kind) {
        if (!isSheet(s)) {
            return findings.tell(BEYOND);
        }
        Sheet sheet = sheets[s];
        if (sheet.isMissing()) {
            return findings.tell(MISSING);
        }
        if (!isKind(kind) || sheet.size == 0 || !isColumn(sheet.numbers[0])) {
            return findings.tell(BEYOND);
        }
        walk.follow(scene.pane, kind, sheet.numbers[0], READER_WATER);
        for (int i = 0; i < sheet.size; i++) {
            int cell = walk.cellBehind(i);
            if (cell == NOWHERE || columnOf(cell) != sheet.numbers[i]) {
                return 1 + i;
            }
        }
        return 0;
    }

    // ---- images

    public int image() {
        kept.become(scene);
        isKept = true;
        return 1;
    }

    public int undo() {
        if (!isKept) {
            return findings.tell(NONE);
        }
        scene.become(kept);
        return scene.drops.howMany();
    }

    public int tear() {
        int was = isKept ? 1 : 0;
        isKept = false;
        return was;
    }

    public int count(int what) {
        switch (what) {
            case 0:
                return scene.drops.howMany();
            case 1:
                // A drop that isn't there has no water.
                return sumOf(scene.drops.water);
            case 2:
                return countAbove0(scene.pane.wet);
            case 3:
                return countAbove0(scene.pane.dirt);
            case 4:
                return scene.programs.made;
            case 5:
                return tape.length;
            case 6:
                return scene.z;
            case 7:
                return scene.ticks;
            default:
                return findings.tell(BEYOND);
        }
    }

    public int status(int which) {
        if (which == -1) {
            return sumOf(findings.told);
        }
        if (!isWithin(which, 0, FINDINGS - 1)) {
            return findings.tell(BEYOND);
        }
        return findings.told[which];
    }

    // ---- what numbers may be

    private static boolean isWithin(int v, int from, int to) {
        return v >= from && v <= to;
    }

    private static boolean isCell(int cell) {
        return isWithin(cell, 0, CELLS - 1);
    }

    private static boolean isRow(int row) {
        return isWithin(row, 0, ROWS - 1);
    }

    private static boolean isColumn(int column) {
        return isWithin(column, 0, COLUMNS - 1);
    }

    private static boolean isKind(int kind) {
        return isWithin(kind, 0, KINDS - 1);
    }

    private static boolean isWater(int water) {
        return isWithin(water, 1, MOST_WATER);
    }

    private static boolean isStart(int kind, int column, int water) {
        return isKind(kind) && isColumn(column) && isWater(water);
    }

    private static boolean isDropNumber(int drop) {
        return isWithin(drop, 0, DROPS - 1);
    }

    private static boolean isSpot(int spot) {
        return isWithin(spot, 0, SPOTS - 1);
    }

    private static boolean isSheet(int s) {
        return isWithin(s, 0, SHEETS - 1);
    }

    private static boolean isWidth(int bits) {
        return bits == 0 || bits == 8 || bits == 16 || bits == 32;
    }

    private static boolean isSetting(int what, int v) {
        switch (what) {
            case 0:
                return isWithin(v, 0, MOST_LEAN);
            case 1:
                return isWithin(v, -MOST_WIND, MOST_WIND);
            case 2:
                return isWithin(v, 0, MOST_FADE);
            default:
                return false;
        }
    }

    private boolean isProgram(int program) {
        return isWithin(program, 0, scene.programs.made - 1);
    }

    // ---- cells, kinds and rows of numbers

    private static int columnOf(int cell) {
        return cell % COLUMNS;
    }

    private static boolean isOnLastRow(int cell) {
        return cell >= CELLS - COLUMNS;
    }

    /** The cell one column to the left (by -1) or to the right (by 1), or NOWHERE. */
    private static int besideOf(int cell, int by) {
        int column = cell % COLUMNS + by;
        return column >= 0 && column < COLUMNS ? cell + by : NOWHERE;
    }

    /** The cell straight (side 0), left (1) or right down (2) of one that isn't on the last row, or NOWHERE. */
    private static int belowOf(int cell, int side) {
        int below = cell + COLUMNS;
        switch (side) {
            case 0:
                return below;
            case 1:
                return besideOf(below, -1);
            default:
                return besideOf(below, 1);
        }
    }

    private static boolean isUnder(int kind, int above) {
        int k = kind;
        for (int level = 0; level < KINDS && isKind(k); level++) {
            if (k == above) {
                return true;
            }
            k = ABOVE[k];
        }
        return false;
    }

    private static int countAbove0(int[] numbers) {
        int found = 0;
        for (int v : numbers) {
            if (v > 0) {
                found++;
            }
        }
        return found;
    }

    private static int sumOf(int[] numbers) {
        int sum = 0;
        for (int v : numbers) {
            sum += v;
        }
        return sum;
    }

    private static void copyAll(int[] from, int[] to) {
        System.arraycopy(from, 0, to, 0, Math.min(from.length, to.length));
    }

    /** How often each finding was answered. */
    private static final class Findings {
        final int[] told = new int[FINDINGS];

        int tell(int which) {
            told[which]++;
            return LOW - which;
        }
    }

    /** The cells, and what they do to one drop. */
    private static final class Pane {
        final int[] dirt = new int[CELLS];
        final int[] wet = new int[CELLS];
        int lean = 3;
        int wind = 0;
        int fade = 1;
        /** The cells below a drop to which it can go, by sides; NOWHERE where it can't. */
        private final int[] reach = new int[SIDES];

        void become(Pane other) {
            copyAll(other.dirt, dirt);
            copyAll(other.wet, wet);
            lean = other.lean;
            wind = other.wind;
            fade = other.fade;
        }

        int holdOf(int cell) {
            int hold = 3 * dirt[cell] - wet[cell] / 10;
            return hold > 0 ? hold : 0;
        }

        int cleanRow(int row) {
            int dirty = 0;
            for (int cell = row * COLUMNS; cell < (row + 1) * COLUMNS; cell++) {
                if (dirt[cell] > 0) {
                    dirty++;
                }
                dirt[cell] = 0;
                wet[cell] = 0;
            }
            return dirty;
        }

        int wetColumn(int column) {
            int lessWet = 0;
            for (int cell = column; cell < CELLS; cell += COLUMNS) {
                if (wet[cell] < MOST_WET) {
                    lessWet++;
                }
                wet[cell] = MOST_WET;
            }
            return lessWet;
        }

        void fadeOnce() {
            for (int cell = 0; cell < CELLS; cell++) {
                wet[cell] = Math.max(0, wet[cell] - fade);
            }
        }

        /** The cell to which a drop goes, as the pane is: its own if it is held, or OUT. */
        int goal(int kind, int cell, int water, int steps) {
            if (isOnLastRow(cell)) {
                return OUT;
            }
            int push = water + lean;
            lookDown(cell, push);
            int to = ownChoice(kind, steps);
            if (to == NOWHERE && kind == STANDING) {
                to = sideways(cell, push);
            } else if (to == NOWHERE && kind != STRAIGHT) {
                to = softest();
            }
            return to == NOWHERE ? cell : to;
        }

        private void lookDown(int cell, int push) {
            for (int side = 0; side < SIDES; side++) {
                int below = belowOf(cell, side);
                reach[side] = below != NOWHERE && holdOf(below) <= push ? below : NOWHERE;
            }
        }

        /** Where a kind goes ahead of what it does if it can't so. */
        private int ownChoice(int kind, int steps) {
            switch (kind) {
                case STRAIGHT:
                case STANDING:
                case PLAITED:
                    return reach[0];
                case SWINGING:
                    return swing(steps);
                case BROKEN:
                    return steps % 3 == 2 ? NOWHERE : swing(steps);
                case AGAIN:
                    return wettest();
                default:
                    return NOWHERE;
            }
        }

        private int sideways(int cell, int push) {
            int beside = besideOf(cell, columnOf(cell) % 2 == 0 ? -1 : 1);
            return beside != NOWHERE && holdOf(beside) <= push ? beside : NOWHERE;
        }

        private int swing(int steps) {
            return steps % 2 == 0 ? reach[1] : reach[2];
        }

        private int softest() {
            int best = NOWHERE;
            int leastHold = 0;
            for (int cell : reach) {
                if (cell != NOWHERE && (best == NOWHERE || holdOf(cell) < leastHold)) {
                    best = cell;
                    leastHold = holdOf(cell);
                }
            }
            return best;
        }

        private int wettest() {
            int best = NOWHERE;
            int mostWet = 0;
            for (int cell : reach) {
                if (cell != NOWHERE && wet[cell] > mostWet) {
                    best = cell;
                    mostWet = wet[cell];
                }
            }
            return best;
        }
    }

    /** The drops by their numbers; one without water isn't there. */
    private static final class Drops {
        final int[] kind = new int[DROPS];
        final int[] cell = new int[DROPS];
        final int[] water = new int[DROPS];
        final int[] steps = new int[DROPS];

        void become(Drops other) {
            copyAll(other.kind, kind);
            copyAll(other.cell, cell);
            copyAll(other.water, water);
            copyAll(other.steps, steps);
        }

        boolean isThere(int drop) {
            return water[drop] > 0;
        }

        int howMany() {
            return countAbove0(water);
        }

        int leastFree() {
            for (int drop = 0; drop < DROPS; drop++) {
                if (!isThere(drop)) {
                    return drop;
                }
            }
            return NOTHING;
        }

        int leastOn(int place) {
            for (int drop = 0; drop < DROPS; drop++) {
                if (isThere(drop) && cell[drop] == place) {
                    return drop;
                }
            }
            return NOTHING;
        }

        void addWater(int drop, int more) {
            water[drop] = Math.min(MOST_WATER, water[drop] + more);
        }

        void join() {
            for (int drop = 0; drop < DROPS; drop++) {
                int taker = isThere(drop) ? leastOn(cell[drop]) : drop;
                if (taker != drop && isDropNumber(taker)) {
                    addWater(taker, water[drop]);
                    water[drop] = 0;
                }
            }
        }
    }

    /** All that an image keeps. */
    private static final class Scene {
        final Pane pane = new Pane();
        final Drops drops = new Drops();
        final Programs programs = new Programs();
        final int[] shedAt = new int[COLUMNS];
        final int[] spots = new int[SPOTS];
        int z = 1;
        int ticks = 0;

        Scene() {
            Arrays.fill(spots, NOTHING);
        }

        void become(Scene other) {
            pane.become(other.pane);
            drops.become(other.drops);
            programs.become(other.programs);
            copyAll(other.shedAt, shedAt);
            copyAll(other.spots, spots);
            z = other.z;
            ticks = other.ticks;
        }

        int draw() {
            z = z * 1103515245 + 12345;
            return z >>> 8;
        }

        /** The number of a new drop, or NOTHING if there is no place for one. */
        int makeDrop(int kind, int column, int water) {
            int made = drops.leastFree();
            if (made != NOTHING) {
                drops.kind[made] = kind;
                drops.cell[made] = column;
                drops.water[made] = water;
                drops.steps[made] = 0;
                pane.wet[column] = MOST_WET;
            }
            return made;
        }

        void passTicks(int n) {
            for (int i = 0; i < n; i++) {
                letGo();
                blow();
                drops.join();
                pane.fadeOnce();
                ticks++;
            }
        }

        private void letGo() {
            for (int drop = 0; drop < DROPS; drop++) {
                if (drops.isThere(drop)) {
                    int from = drops.cell[drop];
                    int to = pane.goal(drops.kind[drop], from, drops.water[drop], drops.steps[drop]);
                    if (to == OUT) {
                        shedAt[columnOf(from)] += drops.water[drop];
                        drops.water[drop] = 0;
                    } else if (to != from) {
                        comeTo(drop, to);
                    }
                }
            }
        }

        private void comeTo(int drop, int cell) {
            drops.cell[drop] = cell;
            drops.steps[drop]++;
            pane.wet[cell] = MOST_WET;
            if (isUnder(drops.kind[drop], DROPPING)) {
                drops.water[drop]--;
            }
        }

        private void blow() {
            int by = pane.wind < 0 ? -1 : 1;
            int force = Math.abs(pane.wind);
            for (int drop = 0; drop < DROPS; drop++) {
                if (drops.isThere(drop) && drops.water[drop] < force) {
                    int to = besideOf(drops.cell[drop], by);
                    if (to != NOWHERE) {
                        drops.cell[drop] = to;
                        pane.wet[to] = MOST_WET;
                    }
                }
            }
        }

        void perform(int place) {
            int deed = programs.deeds[place];
            int number = programs.numbers[place];
            switch (deed) {
                case WAIT:
                    passTicks(number);
                    break;
                case LEAN:
                    pane.lean = number;
                    break;
                case FADE:
                    pane.fade = number;
                    break;
                case WIND:
                    pane.wind = number;
                    break;
                case FINGER:
                    pane.wetColumn(number);
                    break;
                default:
                    makeDrop(deed, programs.columns[place], number);
                    break;
            }
        }
    }

    /** The deeds of all programs; those of one stand side by side. */
    private static final class Programs {
        int made = 0;
        final int[] sizes = new int[PROGRAMS];
        final int[] deeds = new int[PROGRAMS * MOST_DEEDS];
        final int[] numbers = new int[PROGRAMS * MOST_DEEDS];
        final int[] columns = new int[PROGRAMS * MOST_DEEDS];

        void become(Programs other) {
            made = other.made;
            copyAll(other.sizes, sizes);
            copyAll(other.deeds, deeds);
            copyAll(other.numbers, numbers);
            copyAll(other.columns, columns);
        }

        void put(int place, int deed, int number, int column) {
            deeds[place] = deed;
            numbers[place] = number;
            columns[place] = column;
        }

        int ticksOf(int program) {
            int sum = 0;
            for (int i = 0; i < sizes[program]; i++) {
                int place = program * MOST_DEEDS + i;
                if (deeds[place] == WAIT) {
                    sum += numbers[place];
                }
            }
            return sum;
        }
    }

    /** The bytes, 0 to 255, of a text to come. */
    private static final class Tape {
        final int[] bytes = new int[TAPE_BYTES];
        int length = 0;

        void append(int packed, int n) {
            for (int i = n - 1; i >= 0; i--) {
                bytes[length] = (packed >>> (8 * i)) & 255;
                length++;
            }
        }
    }

    /** Reads a text token by token. */
    private static final class Reader {
        private static final int END = 0;
        private static final int WORD = 1;
        private static final int NUMBER = 2;
        private static final int SEMICOLON = 3;
        private static final int MINUS = 4;
        private static final int NO_TOKEN = 5;
        private static final int MOST_NUMBER = 999;

        private final Tape tape;
        private int type;
        /** The token's first byte; at the end of the tape, how many bytes there are. */
        private int start;
        private int behind;
        private int value;

        Reader(Tape tape) {
            this.tape = tape;
        }

        /** Makes a program, or tells the fault; then no program is made. The programs must have room. */
        int readText(Programs programs) {
            behind = 0;
            readToken();
            int first = programs.made * MOST_DEEDS;
            for (int i = 0; i < MOST_DEEDS; i++) {
                int fault = readDeed(programs, first + i);
                if (fault != NO_FAULT) {
                    return fault;
                }
                if (type == END) {
                    programs.sizes[programs.made] = i + 1;
                    programs.made++;
                    return NO_FAULT;
                }
                if (type != SEMICOLON) {
                    return start;
                }
                readToken();
            }
            // Behind the twelfth semicolon nothing can stand, and nothing is too early.
            return start;
        }

        private int readDeed(Programs programs, int place) {
            int deed = type == WORD ? deedOfToken() : NOTHING;
            if (deed == NOTHING) {
                return start;
            }
            readToken();
            boolean isNegative = deed == WIND && type == MINUS;
            if (isNegative) {
                readToken();
            }
            if (!isNumber(LEAST_OF_DEED[deed], MOST_OF_DEED[deed])) {
                return start;
            }
            int number = isNegative ? -value : value;
            readToken();
            int column = 0;
            if (isKind(deed)) {
                if (type != WORD || !isToken("at")) {
                    return start;
                }
                readToken();
                if (!isNumber(0, COLUMNS - 1)) {
                    return start;
                }
                column = value;
                readToken();
            }
            programs.put(place, deed, number, column);
            return NO_FAULT;
        }

        private boolean isNumber(int from, int to) {
            return type == NUMBER && isWithin(value, from, to);
        }

        private int deedOfToken() {
            for (int deed = 0; deed < DEED_WORDS; deed++) {
                if (isToken(wordOf(deed))) {
                    return deed;
                }
            }
            return NOTHING;
        }

        private boolean isToken(String word) {
            if (behind - start != word.length()) {
                return false;
            }
            for (int i = 0; i < word.length(); i++) {
                if (tape.bytes[start + i] != word.charAt(i)) {
                    return false;
                }
            }
            return true;
        }

        private static String wordOf(int deed) {
            switch (deed) {
                case GOING:
                    return "going";
                case DROPPING:
                    return "dropping";
                case STRAIGHT:
                    return "straight";
                case STANDING:
                    return "standing";
                case SWINGING:
                    return "swinging";
                case BROKEN:
                    return "broken";
                case PLAITED:
                    return "plaited";
                case AGAIN:
                    return "again";
                case WAIT:
                    return "wait";
                case LEAN:
                    return "lean";
                case FADE:
                    return "fade";
                case WIND:
                    return "wind";
                default:
                    return "finger";
            }
        }

        private void readToken() {
            start = behind;
            while (start < tape.length && tape.bytes[start] == ' ') {
                start++;
            }
            behind = start;
            type = typeAt(start);
            if (type == WORD) {
                while (behind < tape.length && typeAt(behind) == WORD) {
                    behind++;
                }
            } else if (type == NUMBER) {
                readNumber();
            } else if (type != END) {
                behind++;
            }
        }

        private void readNumber() {
            value = 0;
            while (behind < tape.length && typeAt(behind) == NUMBER) {
                // A number that is too great stays so, however many digits follow.
                value = Math.min(MOST_NUMBER + 1, value * 10 + tape.bytes[behind] - '0');
                behind++;
            }
        }

        /** The type of the token that a byte would begin; END behind the last byte. */
        private int typeAt(int place) {
            if (place >= tape.length) {
                return END;
            }
            int sign = tape.bytes[place];
            if (isWithin(sign, 'a', 'z')) {
                return WORD;
            }
            if (isWithin(sign, '0', '9')) {
                return NUMBER;
            }
            if (sign == ';') {
                return SEMICOLON;
            }
            return sign == '-' ? MINUS : NO_TOKEN;
        }
    }

    /** A path from its begin to its end. */
    private static final class Walk {
        /** The cells behind 0, 1, .. steps. */
        private final int[] cells = new int[MOST_STEPS + 1];
        int steps;
        int water;
        /** Where it goes out; -1 if it doesn't. */
        int outColumn;

        void follow(Pane pane, int kind, int column, int startWater) {
            cells[0] = column;
            steps = 0;
            water = startWater;
            outColumn = NOTHING;
            boolean losesWater = isUnder(kind, DROPPING);
            boolean goesOn = true;
            for (int i = 0; goesOn && i < MOST_STEPS; i++) {
                int to = pane.goal(kind, cells[i], water, i);
                if (to == cells[i]) {
                    goesOn = false;
                } else {
                    steps = i + 1;
                    cells[steps] = to;
                    if (to == OUT) {
                        outColumn = columnOf(cells[i]);
                        goesOn = false;
                    } else if (losesWater) {
                        water--;
                        goesOn = water > 0;
                    }
                }
            }
        }

        boolean isOut() {
            return outColumn != NOTHING;
        }

        int lastCell() {
            return isOut() && steps > 0 ? cells[steps - 1] : cells[steps];
        }

        /** The cell behind i steps, or NOWHERE if there are not so many or it is out. */
        int cellBehind(int i) {
            return i <= steps && cells[i] != OUT ? cells[i] : NOWHERE;
        }
    }

    /** What the best way from each cell to the last row still costs. */
    private static final class Ways {
        final int[] rest = new int[CELLS];

        /** Costs are the sum of holds, or else the greatest hold. */
        void reckon(Pane pane, boolean isSum) {
            for (int cell = CELLS - 1; cell >= 0; cell--) {
                rest[cell] = isOnLastRow(cell) ? 0 : leastBelow(pane, cell, isSum);
            }
        }

        private int leastBelow(Pane pane, int cell, boolean isSum) {
            // Straight down there is always a cell.
            int best = costOver(pane, belowOf(cell, 0), isSum);
            for (int side = 1; side < SIDES; side++) {
                int below = belowOf(cell, side);
                if (below != NOWHERE) {
                    best = Math.min(best, costOver(pane, below, isSum));
                }
            }
            return best;
        }

        private int costOver(Pane pane, int below, boolean isSum) {
            int hold = pane.holdOf(below);
            return isSum ? hold + rest[below] : Math.max(hold, rest[below]);
        }

        int leastStart() {
            int best = 0;
            for (int column = 1; column < COLUMNS; column++) {
                if (rest[column] < rest[best]) {
                    best = column;
                }
            }
            return best;
        }

        /** The column where the way of the least sum from a column ends; the sums are reckoned ahead of it. */
        int endFrom(Pane pane, int begin) {
            int cell = begin;
            for (int row = 0; row < ROWS - 1; row++) {
                cell = downOn(pane, cell);
            }
            return columnOf(cell);
        }

        private int downOn(Pane pane, int cell) {
            for (int side = 0; side < SIDES; side++) {
                int below = belowOf(cell, side);
                if (below != NOWHERE && costOver(pane, below, true) == rest[cell]) {
                    return below;
                }
            }
            return cell;
        }
    }

    /** A row of numbers of 8, 16 or 32 bits; it is missing while it has none of these. */
    private static final class Sheet {
        int bits = 0;
        int size = 0;
        final int[] numbers = new int[SHEET_NUMBERS];

        boolean isMissing() {
            return bits == 0;
        }

        void begin(int width, int n) {
            bits = width;
            size = n;
            Arrays.fill(numbers, 0);
        }

        void put(int i, int v) {
            switch (bits) {
                case 8:
                    numbers[i] = (byte) v;
                    break;
                case 16:
                    numbers[i] = (short) v;
                    break;
                default:
                    numbers[i] = v;
                    break;
            }
        }

        boolean hasStretch(int from, int n) {
            return from >= 0 && n >= 0 && from <= size - n;
        }
    }
}
