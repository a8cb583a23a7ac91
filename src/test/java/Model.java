import java.util.ArrayList;
import java.util.Arrays;
import java.util.HashMap;
import java.util.List;
import java.util.Map;
import java.util.TreeMap;
import java.util.regex.Matcher;
import java.util.regex.Pattern;

/**
 * The document read once more, with the Java library and without care for
 * speed, to be held against the program. It shares no code with it.
 */
final class Model {
    private static final List<String> KIND_WORDS =
            List.of("going", "dropping", "straight", "standing", "swinging", "broken", "plaited", "again");
    private static final Map<String, String> KIND_ABOVE = Map.of(
            "dropping", "going", "straight", "going", "swinging", "going", "standing", "straight",
            "plaited", "straight", "broken", "swinging", "again", "dropping");
    private static final Map<String, int[]> PLAIN_DEEDS = Map.of(
            "wait", new int[] {1, 50}, "lean", new int[] {0, 9}, "fade", new int[] {0, 9},
            "wind", new int[] {0, 20}, "finger", new int[] {0, 11});
    private static final List<String> FINDINGS =
            List.of("BEYOND", "FULL", "KIND", "NONE", "STATE", "MISSING", "SIZE");

    private record Place(int row, int column) {
        boolean isOnPane() {
            return row >= 0 && row < 16 && column >= 0 && column < 12;
        }

        int number() {
            return 12 * row + column;
        }
    }

    private static final class Drop {
        String kind;
        Place at;
        int water;
        int steps;

        Drop(String kind, Place at, int water, int steps) {
            this.kind = kind;
            this.at = at;
            this.water = water;
            this.steps = steps;
        }
    }

    private record Deed(String word, int number, int column) { }

    private static final class World {
        int[][] dirt = new int[16][12];
        int[][] wet = new int[16][12];
        int lean = 3;
        int wind = 0;
        int fade = 1;
        TreeMap<Integer, Drop> drops = new TreeMap<>();
        Map<Integer, Integer> shed = new HashMap<>();
        List<List<Deed>> programs = new ArrayList<>();
        Integer[] spots = new Integer[10];
        int z = 1;
        int ticks = 0;

        World deepCopy() {
            World w = new World();
            for (int r = 0; r < 16; r++) {
                w.dirt[r] = dirt[r].clone();
                w.wet[r] = wet[r].clone();
            }
            w.lean = lean;
            w.wind = wind;
            w.fade = fade;
            drops.forEach((k, d) -> w.drops.put(k, new Drop(d.kind, d.at, d.water, d.steps)));
            w.shed.putAll(shed);
            w.programs.addAll(programs);
            w.spots = spots.clone();
            w.z = z;
            w.ticks = ticks;
            return w;
        }

        int hold(Place p) {
            return Math.max(0, 3 * dirt[p.row][p.column] - wet[p.row][p.column] / 10);
        }

        boolean can(Place p, int water) {
            return p.isOnPane() && hold(p) <= water + lean;
        }

        /** Null: held. A place below the pane: out. */
        Place goes(String kind, Place at, int water, int steps) {
            Place straight = new Place(at.row + 1, at.column);
            Place left = new Place(at.row + 1, at.column - 1);
            Place right = new Place(at.row + 1, at.column + 1);
            if (at.row == 15) {
                return straight;
            }
            List<Place> three = new ArrayList<>(List.of(straight, left, right));
            three.removeIf(p -> !can(p, water));
            switch (kind) {
                case "going":
                    return three.stream().min((a, b) -> hold(a) - hold(b)).orElse(null);
                case "straight":
                    return can(straight, water) ? straight : null;
                case "standing":
                    Place down = goes("straight", at, water, steps);
                    Place aside = new Place(at.row, at.column + (at.column % 2 == 0 ? -1 : 1));
                    return down != null ? down : can(aside, water) ? aside : null;
                case "swinging":
                    Place swung = steps % 2 == 0 ? left : right;
                    return can(swung, water) ? swung : goes("going", at, water, steps);
                case "broken":
                    return goes(steps % 3 == 2 ? "going" : "swinging", at, water, steps);
                case "plaited":
                    Place first = goes("straight", at, water, steps);
                    return first != null ? first : goes("going", at, water, steps);
                case "again":
                    three.removeIf(p -> wet[p.row][p.column] == 0);
                    return three.stream().min((a, b) -> wet[b.row][b.column] - wet[a.row][a.column])
                            .orElseGet(() -> goes("dropping", at, water, steps));
                default:
                    return goes(KIND_ABOVE.get(kind), at, water, steps);
            }
        }

        void tick() {
            for (int k : new ArrayList<>(drops.keySet())) {
                Drop d = drops.get(k);
                Place to = goes(d.kind, d.at, d.water, d.steps);
                if (to == null) {
                    continue;
                }
                if (to.row == 16) {
                    shed.merge(to.column, d.water, Integer::sum);
                    drops.remove(k);
                    continue;
                }
                d.at = to;
                d.steps++;
                wet[to.row][to.column] = 99;
                if (isOf(d.kind, "dropping") && --d.water == 0) {
                    drops.remove(k);
                }
            }
            for (Drop d : drops.values()) {
                Place to = new Place(d.at.row, d.at.column + (wind < 0 ? -1 : 1));
                if (d.water < Math.abs(wind) && to.isOnPane()) {
                    d.at = to;
                    wet[to.row][to.column] = 99;
                }
            }
            Map<Place, Drop> first = new HashMap<>();
            for (int k : new ArrayList<>(drops.keySet())) {
                Drop d = drops.get(k);
                Drop taker = first.putIfAbsent(d.at, d);
                if (taker != null) {
                    taker.water = Math.min(99, taker.water + d.water);
                    drops.remove(k);
                }
            }
            for (int[] row : wet) {
                for (int c = 0; c < 12; c++) {
                    row[c] = Math.max(0, row[c] - fade);
                }
            }
            ticks++;
        }

        int draw() {
            z = z * 1103515245 + 12345;
            return z >>> 8;
        }

        Integer newDrop(String kind, int column, int water) {
            for (int k = 0; k < 8; k++) {
                if (!drops.containsKey(k)) {
                    drops.put(k, new Drop(kind, new Place(0, column), water, 0));
                    wet[0][column] = 99;
                    return k;
                }
            }
            return null;
        }

        int draw99(int column) {
            int lessWet = 0;
            for (int[] row : wet) {
                lessWet += row[column] == 99 ? 0 : 1;
                row[column] = 99;
            }
            return lessWet;
        }
    }

    /** A path: its cells behind 0, 1, .. steps, without the one behind going out. */
    private static final class Trail {
        final List<Place> cells = new ArrayList<>();
        int water;
        int out = -1;

        Trail(World w, String kind, int column, int water) {
            cells.add(new Place(0, column));
            this.water = water;
            while (steps() < 64 && out == -1 && this.water > 0) {
                Place at = cells.get(cells.size() - 1);
                Place to = w.goes(kind, at, this.water, steps());
                if (to == null) {
                    return;
                }
                if (to.row == 16) {
                    out = to.column;
                } else {
                    cells.add(to);
                    this.water -= isOf(kind, "dropping") ? 1 : 0;
                }
            }
        }

        int steps() {
            return cells.size() - 1 + (out == -1 ? 0 : 1);
        }
    }

    private static final class Fault extends Exception {
        private static final long serialVersionUID = 1L;
        final int place;

        Fault(int place) {
            super("fault", null, false, false);
            this.place = place;
        }
    }

    private World world = new World();
    private World kept = null;
    private String tape = "";
    private final Map<Integer, int[]> sheets = new HashMap<>();
    private final Map<Integer, Integer> widths = new HashMap<>();
    private final int[] told = new int[7];

    private static boolean isOf(String kind, String above) {
        return kind != null && (kind.equals(above) || isOf(KIND_ABOVE.get(kind), above));
    }

    private int tell(String finding) {
        int which = FINDINGS.indexOf(finding);
        told[which]++;
        return -1000001 - which;
    }

    private static boolean in(int v, int from, int to) {
        return from <= v && v <= to;
    }

    private static Place place(int cell) {
        return new Place(cell / 12, cell % 12);
    }

    private Trail trail(int kind, int column, int water) {
        return new Trail(world, KIND_WORDS.get(kind), column, water);
    }

    private static boolean isPath(int kind, int column, int water) {
        return in(kind, 0, 7) && in(column, 0, 11) && in(water, 1, 99);
    }

    int cellOf(int cell, int what) {
        if (!in(cell, 0, 191) || !in(what, 0, 3)) {
            return tell("BEYOND");
        }
        Place p = place(cell);
        if (what == 3) {
            return world.drops.entrySet().stream().filter(e -> e.getValue().at.equals(p))
                    .mapToInt(Map.Entry::getKey).min().orElse(-1);
        }
        return what == 0 ? world.dirt[p.row][p.column] : what == 1 ? world.wet[p.row][p.column] : world.hold(p);
    }

    int dirt(int cell, int v) {
        if (!in(cell, 0, 191) || !in(v, 0, 9)) {
            return tell("BEYOND");
        }
        int was = world.dirt[cell / 12][cell % 12];
        world.dirt[cell / 12][cell % 12] = v;
        return was;
    }

    int set(int what, int v) {
        int was;
        if (what == 0 && in(v, 0, 9)) {
            was = world.lean;
            world.lean = v;
        } else if (what == 1 && in(v, -20, 20)) {
            was = world.wind;
            world.wind = v;
        } else if (what == 2 && in(v, 0, 9)) {
            was = world.fade;
            world.fade = v;
        } else {
            was = tell("BEYOND");
        }
        return was;
    }

    int scatter(int n) {
        if (!in(n, 1, 60)) {
            return tell("BEYOND");
        }
        for (int i = 0; i < n; i++) {
            Place p = place(world.draw() % 192);
            world.dirt[p.row][p.column] = world.draw() % 10;
        }
        return count(3);
    }

    int clean(int row) {
        if (!in(row, 0, 15)) {
            return tell("BEYOND");
        }
        int had = (int) Arrays.stream(world.dirt[row]).filter(d -> d > 0).count();
        world.dirt[row] = new int[12];
        world.wet[row] = new int[12];
        return had;
    }

    int finger(int column) {
        return in(column, 0, 11) ? world.draw99(column) : tell("BEYOND");
    }

    int fades(int cell) {
        if (!in(cell, 0, 191)) {
            return tell("BEYOND");
        }
        int wet = world.wet[cell / 12][cell % 12];
        if (world.fade == 0 && wet > 0) {
            return tell("NONE");
        }
        int ticks = 0;
        while (wet > 0) {
            wet -= world.fade;
            ticks++;
        }
        return ticks;
    }

    int drop(int kind, int column, int water) {
        if (!isPath(kind, column, water)) {
            return tell("BEYOND");
        }
        Integer made = world.newDrop(KIND_WORDS.get(kind), column, water);
        return made == null ? tell("FULL") : made;
    }

    int dropOf(int drop, int what) {
        if (!in(drop, 0, 7) || !in(what, 0, 3)) {
            return tell("BEYOND");
        }
        Drop d = world.drops.get(drop);
        if (d == null) {
            return tell("NONE");
        }
        return new int[] {KIND_WORDS.indexOf(d.kind), d.at.number(), d.water, d.steps}[what];
    }

    int tick(int n) {
        if (!in(n, 1, 50)) {
            return tell("BEYOND");
        }
        for (int i = 0; i < n; i++) {
            world.tick();
        }
        return world.drops.size();
    }

    int next(int drop) {
        if (!in(drop, 0, 7)) {
            return tell("BEYOND");
        }
        Drop d = world.drops.get(drop);
        if (d == null) {
            return tell("NONE");
        }
        Place to = world.goes(d.kind, d.at, d.water, d.steps);
        return to == null ? d.at.number() : to.row == 16 ? -1 : to.number();
    }

    int pour(int drop, int water) {
        if (!in(drop, 0, 7) || !in(water, 1, 99)) {
            return tell("BEYOND");
        }
        Drop d = world.drops.get(drop);
        if (d == null) {
            return tell("NONE");
        }
        d.water = Math.min(99, d.water + water);
        return d.water;
    }

    int shed(int column) {
        if (column == -1) {
            return world.shed.values().stream().mapToInt(w -> w).sum();
        }
        return in(column, 0, 11) ? world.shed.getOrDefault(column, 0) : tell("BEYOND");
    }

    int feed(int bytes, int n) {
        if (!in(n, 1, 4)) {
            return tell("BEYOND");
        }
        if (tape.length() + n > 100) {
            return tell("FULL");
        }
        String all = "";
        for (int i = 0; i < 4; i++) {
            all = (char) (bytes >> 8 * i & 255) + all;
        }
        tape += all.substring(4 - n);
        return tape.length();
    }

    int wipe() {
        int had = tape.length();
        tape = "";
        return had;
    }

    int program() {
        if (world.programs.size() == 6) {
            return tell("FULL");
        }
        String text = tape;
        tape = "";
        try {
            world.programs.add(parse(text));
            return world.programs.size() - 1;
        } catch (Fault f) {
            return -1 - f.place;
        }
    }

    /** Tokens with their places; the last one is empty and stands at the end. */
    private record Token(String text, int place) {
        int number(int from, int to) throws Fault {
            if (!text.matches("0*[0-9]{1,3}") || !in(Integer.parseInt(text.replaceAll("^0+(?=.)", "")), from, to)) {
                throw new Fault(place);
            }
            return Integer.parseInt(text.replaceAll("^0+(?=.)", ""));
        }
    }

    private static List<Deed> parse(String text) throws Fault {
        List<Token> tokens = new ArrayList<>();
        Matcher m = Pattern.compile(" |([a-z]+|[0-9]+|[^ ])", Pattern.DOTALL).matcher(text);
        while (m.find()) {
            if (m.group(1) != null) {
                tokens.add(new Token(m.group(1), m.start()));
            }
        }
        tokens.add(new Token("", text.length()));
        List<Deed> deeds = new ArrayList<>();
        int i = 0;
        while (true) {
            Token word = tokens.get(i++);
            if (deeds.size() == 12 || !KIND_WORDS.contains(word.text) && !PLAIN_DEEDS.containsKey(word.text)) {
                throw new Fault(word.place);
            }
            if (KIND_WORDS.contains(word.text)) {
                int water = tokens.get(i++).number(1, 99);
                Token at = tokens.get(i++);
                if (!at.text.equals("at")) {
                    throw new Fault(at.place);
                }
                deeds.add(new Deed(word.text, water, tokens.get(i++).number(0, 11)));
            } else {
                int sign = 1;
                if (word.text.equals("wind") && tokens.get(i).text.equals("-")) {
                    sign = -1;
                    i++;
                }
                int[] bounds = PLAIN_DEEDS.get(word.text);
                deeds.add(new Deed(word.text, sign * tokens.get(i++).number(bounds[0], bounds[1]), 0));
            }
            Token behind = tokens.get(i++);
            if (behind.text.isEmpty()) {
                return deeds;
            }
            if (!behind.text.equals(";")) {
                throw new Fault(behind.place);
            }
        }
    }

    int programOf(int program, int what) {
        if (!in(program, 0, world.programs.size() - 1) || !in(what, 0, 1)) {
            return tell("BEYOND");
        }
        List<Deed> deeds = world.programs.get(program);
        return what == 0 ? deeds.size()
                : deeds.stream().filter(d -> d.word.equals("wait")).mapToInt(Deed::number).sum();
    }

    int play(int program) {
        if (!in(program, 0, world.programs.size() - 1)) {
            return tell("BEYOND");
        }
        for (Deed d : world.programs.get(program)) {
            switch (d.word) {
                case "wait" -> {
                    for (int i = 0; i < d.number; i++) {
                        world.tick();
                    }
                }
                case "lean" -> world.lean = d.number;
                case "fade" -> world.fade = d.number;
                case "wind" -> world.wind = d.number;
                case "finger" -> world.draw99(d.number);
                default -> world.newDrop(d.word, d.column, d.number);
            }
        }
        return world.drops.size();
    }

    int path(int kind, int column, int water, int what) {
        if (!isPath(kind, column, water) || !in(what, 0, 3)) {
            return tell("BEYOND");
        }
        Trail t = trail(kind, column, water);
        return new int[] {t.out, t.steps(), t.cells.get(t.cells.size() - 1).number(), t.water}[what];
    }

    int along(int kind, int column, int water, int i) {
        if (!isPath(kind, column, water) || !in(i, 0, 64)) {
            return tell("BEYOND");
        }
        Trail t = trail(kind, column, water);
        return i < t.cells.size() ? t.cells.get(i).number() : tell("NONE");
    }

    int least(int kind, int column, boolean dry) {
        if (!isPath(kind, column, 1)) {
            return tell("BEYOND");
        }
        World w = world.deepCopy();
        if (dry) {
            w.wet = new int[16][12];
        }
        for (int water = 1; water < 100; water++) {
            if (new Trail(w, KIND_WORDS.get(kind), column, water).out >= 0) {
                return water;
            }
        }
        return tell("NONE");
    }

    int basin(int kind, int water, int column) {
        if (!isPath(kind, column, water)) {
            return tell("BEYOND");
        }
        int set = 0;
        for (int c = 0; c < 12; c++) {
            set += trail(kind, c, water).out == column ? 1 << c : 0;
        }
        return set;
    }

    int ways(int kind, int water) {
        if (!isPath(kind, 0, water)) {
            return tell("BEYOND");
        }
        int set = 0;
        for (int c = 0; c < 12; c++) {
            set += basin(kind, water, c) != 0 ? 1 << c : 0;
        }
        return set;
    }

    int soonest(int kind, int column, int water) {
        if (!isPath(kind, column, water)) {
            return tell("BEYOND");
        }
        World w = world.deepCopy();
        TreeMap<Integer, Integer> leanOfSteps = new TreeMap<>();
        for (w.lean = 0; w.lean < 10; w.lean++) {
            Trail t = new Trail(w, KIND_WORDS.get(kind), column, water);
            if (t.out >= 0) {
                leanOfSteps.putIfAbsent(t.steps(), w.lean);
            }
        }
        return leanOfSteps.isEmpty() ? tell("NONE") : leanOfSteps.firstEntry().getValue();
    }

    int meet(int kind, int one, int other, int water) {
        if (!isPath(kind, one, water) || !isPath(kind, other, water) || one == other) {
            return tell("BEYOND");
        }
        List<Place> a = trail(kind, one, water).cells;
        List<Place> b = trail(kind, other, water).cells;
        for (int i = 0; i < a.size() && i < b.size(); i++) {
            if (a.get(i).equals(b.get(i))) {
                return i;
            }
        }
        return tell("NONE");
    }

    int edge(int cell, int kind, int column) {
        if (!in(cell, 0, 191) || !isPath(kind, column, 20)) {
            return tell("BEYOND");
        }
        int best = -1;
        World w = world.deepCopy();
        for (int d = 0; d < 10; d++) {
            w.dirt[cell / 12][cell % 12] = d;
            best = new Trail(w, KIND_WORDS.get(kind), column, 20).out >= 0 ? d : best;
        }
        return best >= 0 ? best : tell("NONE");
    }

    /** Ways are compared by sums, then begins, then turns; forward over the rows, keeping each cell's best. */
    int soft(int what) {
        if (!in(what, 0, 2)) {
            return tell("BEYOND");
        }
        record Way(int sum, int begin, String turns, int column) { }
        List<Way> at = new ArrayList<>();
        for (int c = 0; c < 12; c++) {
            at.add(new Way(0, c, "", c));
        }
        java.util.Comparator<Way> better = java.util.Comparator.comparingInt(Way::sum)
                .thenComparingInt(Way::begin).thenComparing(Way::turns);
        for (int r = 1; r < 16; r++) {
            List<Way> then = new ArrayList<>();
            for (int c = 0; c < 12; c++) {
                Way best = null;
                int hold = world.hold(new Place(r, c));
                for (int from = Math.max(0, c - 1); from <= Math.min(11, c + 1); from++) {
                    Way w = at.get(from);
                    String turn = from == c ? "0" : from == c + 1 ? "1" : "2";
                    Way longer = new Way(w.sum + hold, w.begin, w.turns + turn, c);
                    best = best == null || better.compare(longer, best) < 0 ? longer : best;
                }
                then.add(best);
            }
            at = then;
        }
        Way best = at.stream().min(better).get();
        return what == 0 ? best.sum : what == 1 ? best.begin : best.column;
    }

    int need() {
        for (int most = 0;; most++) {
            boolean[] reached = new boolean[12];
            Arrays.fill(reached, true);
            for (int r = 1; r < 16; r++) {
                boolean[] then = new boolean[12];
                for (int c = 0; c < 12; c++) {
                    boolean from = reached[c] || c > 0 && reached[c - 1] || c < 11 && reached[c + 1];
                    then[c] = from && world.hold(new Place(r, c)) <= most;
                }
                reached = then;
            }
            for (boolean r : reached) {
                if (r) {
                    return most;
                }
            }
        }
    }

    int open(int row, int water) {
        if (!in(row, 0, 15) || !in(water, 1, 99)) {
            return tell("BEYOND");
        }
        int lets = 0;
        for (int c = 0; c < 12; c++) {
            lets += world.can(new Place(row, c), water) ? 1 : 0;
        }
        return lets;
    }

    int seed(int v) {
        int was = world.z;
        world.z = v;
        return was;
    }

    int hold(int spot, int drop) {
        if (!in(spot, 0, 9) || !in(drop, -1, 7)) {
            return tell("BEYOND");
        }
        if (drop >= 0 && !world.drops.containsKey(drop)) {
            return tell("NONE");
        }
        world.spots[spot] = drop == -1 ? null : drop;
        return 1;
    }

    int as(int spot, int kind) {
        if (!in(spot, 0, 9) || !in(kind, 0, 7)) {
            return tell("BEYOND");
        }
        Integer k = world.spots[spot];
        Drop d = k == null ? null : world.drops.get(k);
        if (d == null) {
            return tell("MISSING");
        }
        return isOf(d.kind, KIND_WORDS.get(kind)) ? k : tell("KIND");
    }

    int sheet(int s, int bits, int n) {
        if (!in(s, 0, 3) || !List.of(0, 8, 16, 32).contains(bits)) {
            return tell("BEYOND");
        }
        if (n < 0) {
            return tell("SIZE");
        }
        if (n > 40) {
            return tell("BEYOND");
        }
        widths.put(s, bits);
        if (bits == 0) {
            sheets.remove(s);
            return 0;
        }
        sheets.put(s, new int[n]);
        return n;
    }

    int write(int s, int i, int v) {
        if (!in(s, 0, 3)) {
            return tell("BEYOND");
        }
        int[] numbers = sheets.get(s);
        if (numbers == null) {
            return tell("MISSING");
        }
        if (!in(i, 0, numbers.length - 1)) {
            return tell("BEYOND");
        }
        numbers[i] = widths.get(s) == 32 ? v : v & (1 << widths.get(s)) - 1;
        return 1;
    }

    int copy(int s, int from, int t, int to, int n) {
        if (!in(s, 0, 3) || !in(t, 0, 3)) {
            return tell("BEYOND");
        }
        int[] source = sheets.get(s);
        int[] goal = sheets.get(t);
        if (source == null || goal == null) {
            return tell("MISSING");
        }
        if (!widths.get(s).equals(widths.get(t))) {
            return tell("KIND");
        }
        if (from < 0 || to < 0 || n < 0 || (long) from + n > source.length || (long) to + n > goal.length) {
            return tell("BEYOND");
        }
        int[] were = source.clone();
        for (int i = 0; i < n; i++) {
            goal[to + i] = were[from + i];
        }
        return n;
    }

    int load(int s, int cell) {
        if (!in(s, 0, 3)) {
            return tell("BEYOND");
        }
        int[] numbers = sheets.get(s);
        if (numbers == null) {
            return tell("MISSING");
        }
        if (!in(cell, 0, 191)) {
            return tell("BEYOND");
        }
        int came = 0;
        for (int v : numbers) {
            if (!in(v, 0, 9) || !place(cell + came).isOnPane()) {
                break;
            }
            dirt(cell + came, v);
            came++;
        }
        return came;
    }

    int judge(int s, int kind) {
        if (!in(s, 0, 3)) {
            return tell("BEYOND");
        }
        int[] numbers = sheets.get(s);
        if (numbers == null) {
            return tell("MISSING");
        }
        if (!in(kind, 0, 7) || numbers.length == 0 || !in(numbers[0], 0, 11)) {
            return tell("BEYOND");
        }
        List<Place> cells = trail(kind, numbers[0], 20).cells;
        for (int i = 0; i < numbers.length; i++) {
            if (i >= cells.size() || cells.get(i).column != numbers[i]) {
                return 1 + i;
            }
        }
        return 0;
    }

    int image() {
        kept = world.deepCopy();
        return 1;
    }

    int undo() {
        if (kept == null) {
            return tell("NONE");
        }
        world = kept.deepCopy();
        return world.drops.size();
    }

    int tear() {
        int was = kept == null ? 0 : 1;
        kept = null;
        return was;
    }

    int count(int what) {
        switch (what) {
            case 0:
                return world.drops.size();
            case 1:
                return world.drops.values().stream().mapToInt(d -> d.water).sum();
            case 2:
                return (int) Arrays.stream(world.wet).flatMapToInt(Arrays::stream).filter(v -> v > 0).count();
            case 3:
                return (int) Arrays.stream(world.dirt).flatMapToInt(Arrays::stream).filter(v -> v > 0).count();
            case 4:
                return world.programs.size();
            case 5:
                return tape.length();
            case 6:
                return world.z;
            case 7:
                return world.ticks;
            default:
                return tell("BEYOND");
        }
    }

    int status(int which) {
        if (which == -1) {
            return Arrays.stream(told).sum();
        }
        return in(which, 0, 6) ? told[which] : tell("BEYOND");
    }
}
