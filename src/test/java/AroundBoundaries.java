import java.util.ArrayList;
import java.util.List;
import java.util.function.Consumer;
import java.util.function.ToIntFunction;
import java.util.regex.Matcher;
import java.util.regex.Pattern;

/** What the document says ahead of its terms and behind its promises, and how it groups the calls. */
final class AroundBoundaries {
    private static final int CALLS = 512;
    private static final int STRAIGHT = 2;
    private static final int STANDING = 3;
    private static final String[] GROUPS = {
        "`cellOf`, `dirt`, `set`, `scatter`, `clean`, `finger`, `fades` the interface says: ---- the pane.",
        "`drop`, `dropOf`, `tick`, `next`, `pour`, `shed` the interface says: ---- drops.",
        "`feed`, `wipe`, `program`, `programOf`, `play` the interface says: ---- programs.",
        "`path`, `along`, `least`, `basin`, `ways`, `soonest`, `meet`, `edge` the interface says: ---- paths.",
        "`soft`, `need`, `open`, `seed` the interface says: ---- ways.",
        "`hold`, `as`, `sheet`, `write`, `copy`, `load`, `judge` the interface says: ---- spots, sheets.",
        "`image`, `undo`, `tear`, `count`, `status` the interface says: ---- images.",
    };

    private final Boundaries b;
    private final String source;

    AroundBoundaries(Boundaries b, String source) {
        this.b = b;
        this.source = source;
    }

    void all() {
        ofWhatItIs();
        dirtAndWet();
        kinds();
        windToShed();
        paths();
        programs();
        ofCalls();
        lastCalls();
        mostOfAll();
        laterCalls();
        groups();
        free();
        twoObjects();
        nothingBeyond();
    }

    private void ofWhatItIs() {
        b.of(Sentences.WHAT_IT_IS, "A thread on a pane: cells with dirt that holds water and wet that lets it go; drops of kinds"
                + " that go down, straight, standing, swinging, broken, plaited, where it is wet again, as far as they can push;"
                + " wind, fading, joining, what is shed; paths as things are, the least water that comes through, which start"
                + " goes out where, the softest way, the least push, edges; programs from texts.");
    }

    private void dirtAndWet() {
        PaneThread x = new PaneThread();
        x.dirt(17, 4);
        x.drop(STRAIGHT, 5, 5);
        x.tick(1);
        b.due("dirt holds water", x.dropOf(0, 1), 5);
        x.finger(5);
        x.tick(1);
        b.due("wet lets it go", x.dropOf(0, 1), 17);
    }

    /** Where a new drop of each kind in column 5 is behind one tick: on a clean pane, and with dirt straight below. */
    private void kinds() {
        int[][] due = {{17, 16}, {17, 16}, {17, 5}, {17, 6}, {16, 16}, {16, 16}, {17, 16}, {17, 16}};
        for (int kind = 0; kind < 8; kind++) {
            for (int way = 0; way < 2; way++) {
                PaneThread x = new PaneThread();
                x.dirt(17, 9 * way);
                x.drop(kind, 5, 9);
                x.tick(1);
                b.due("KIND " + kind + (way == 0 ? ", clean" : ", dirt below"), x.dropOf(0, 1), due[kind][way]);
            }
        }
        PaneThread wet = new PaneThread();
        wet.finger(6);
        wet.drop(7, 5, 9);
        wet.tick(1);
        b.due("where it is wet again", wet.dropOf(0, 1), 18);
        PaneThread push = new PaneThread();
        Histories.bar(push, 1, -1, 0);
        push.drop(0, 5, 23);
        push.drop(0, 7, 24);
        push.tick(1);
        b.due("as far as it can push", push.dropOf(0, 1), 5);
        b.due("one more", push.dropOf(1, 1), 19);
    }

    private void windToShed() {
        PaneThread x = new PaneThread();
        x.drop(STRAIGHT, 5, 4);
        x.drop(STRAIGHT, 6, 9);
        x.set(1, 5);
        b.due("wind, and joining", x.tick(1), 1);
        b.due("their water", x.dropOf(0, 2), 13);
        b.due("where", x.dropOf(0, 1), 18);
        b.due("fading", x.cellOf(18, 1), 98);
        x.tick(15);
        b.due("what is shed", x.shed(6), 13);
    }

    private void paths() {
        PaneThread x = new PaneThread();
        Histories.bar(x, 8, 7, 2);
        b.due("a path as things are", x.path(0, 7, 9, 0), 7);
        b.due("the least water that comes through", x.least(0, 7, false), 3);
        b.due("which start goes out at a column", x.basin(0, 3, 7), 1 << 6 | 1 << 7 | 1 << 8);
        b.due("where starts go out", x.ways(0, 3), 1 << 7);
        b.due("the softest way", x.soft(0), 6);
        b.due("the least push", x.need(), 6);
        b.due("an edge", x.edge(103, STRAIGHT, 7), 7);
    }

    private void programs() {
        PaneThread x = new PaneThread();
        b.due("a program from a text", Checks.programFrom(x, "straight 9 at 5;wait 16"), 0);
        b.due("played", x.play(0), 0);
        b.due("what it shed", x.shed(5), 9);
    }

    private void ofCalls() {
        b.of(Sentences.WHAT_IT_IS, "An object is used for at most 512 calls after it has been made;"
                + " what later calls answer is free.");
    }

    /** Calls that ask and change nothing. */
    private static List<ToIntFunction<PaneThread>> asking() {
        List<ToIntFunction<PaneThread>> acts = new ArrayList<>(List.of(
                x -> x.cellOf(17, 2), x -> x.cellOf(5, 3), x -> x.fades(17), x -> x.dropOf(0, 1), x -> x.next(0),
                x -> x.next(1), x -> x.next(3), x -> x.shed(-1), x -> x.programOf(0, 1)));
        for (int kind = 0; kind < 8; kind++) {
            int k = kind;
            acts.add(x -> x.path(k, 5, 20, 1));
            acts.add(x -> x.along(k, 4, 30, 9));
            acts.add(x -> x.least(k, 6, false));
            acts.add(x -> x.least(k, 6, true));
            acts.add(x -> x.basin(k, 25, 5));
            acts.add(x -> x.ways(k, 25));
            acts.add(x -> x.soonest(k, 7, 12));
            acts.add(x -> x.meet(k, 4, 5, 30));
            acts.add(x -> x.edge(41, k, 5));
            acts.add(x -> x.judge(0, k));
        }
        acts.addAll(List.of(x -> x.soft(0), x -> x.soft(1), x -> x.soft(2), x -> x.need(), x -> x.open(3, 5), x -> x.as(1, 2),
                x -> x.count(1), x -> x.status(-1)));
        return acts;
    }

    /** Calls that change something. */
    private static List<ToIntFunction<PaneThread>> doing() {
        return List.of(x -> x.dirt(30, 4), x -> x.set(0, 2), x -> x.scatter(9), x -> x.clean(2), x -> x.finger(3),
                x -> x.drop(4, 8, 30), x -> x.tick(2), x -> x.pour(0, 7), x -> x.play(0), x -> x.feed(Checks.pack(";wai"), 4),
                x -> x.program(), x -> x.feed(Checks.pack("fade"), 4), x -> x.wipe(), x -> x.seed(7), x -> x.hold(3, 0),
                x -> x.sheet(3, 16, 9), x -> x.write(3, 8, 9), x -> x.copy(3, 0, 1, 1, 9), x -> x.load(1, 90), x -> x.undo(),
                x -> x.image(), x -> x.tear());
    }

    private static List<Integer> answers(PaneThread x, List<ToIntFunction<PaneThread>> acts) {
        List<Integer> answers = new ArrayList<>();
        for (ToIntFunction<PaneThread> act : acts) {
            answers.add(act.applyAsInt(x));
        }
        return answers;
    }

    private static List<ToIntFunction<PaneThread>> allActs() {
        List<ToIntFunction<PaneThread>> acts = new ArrayList<>(asking());
        acts.addAll(doing());
        return acts;
    }

    /** The last of the 512 calls are answered as if they were early ones, each call being the very last one once. */
    private void lastCalls() {
        List<ToIntFunction<PaneThread>> acts = allActs();
        for (int last = 0; last < acts.size(); last++) {
            List<ToIntFunction<PaneThread>> some = acts.subList(0, last + 1);
            PaneThread early = new PaneThread();
            Histories.busy(early);
            List<Integer> due = answers(early, some);
            PaneThread late = new PaneThread();
            Histories.busy(late);
            for (int i = Histories.CALLS_OF_BUSY + some.size(); i < CALLS; i++) {
                late.count(0);
            }
            b.holds("call " + last + " as the 512th", answers(late, some).equals(due));
        }
    }

    /** What grows with calls: ticks, steps, what is shed, findings. */
    private void mostOfAll() {
        PaneThread x = new PaneThread();
        Histories.bar(x, 1, -1, 0);
        x.drop(STANDING, 5, 5);
        Checks.programFrom(x, ProgramsBoundaries.repeat("wait50", 12));
        // 12 for the bar, one for the drop, 21 for 83 bytes, wipe and program: 36; two asks are left.
        int plays = CALLS - 36 - 2;
        for (int i = 0; i < plays; i++) {
            x.play(0);
        }
        b.due("the most TICKS", x.count(7), 600 * plays);
        b.due("the most STEPS", x.dropOf(0, 3), 600 * plays);

        PaneThread shed = new PaneThread();
        Checks.programFrom(shed, "straight99at0;straight99at1;straight99at2;straight99at3;straight99at4;straight99at5;wait 16");
        // 23 for 91 bytes, wipe and program; two asks are left.
        int sheds = CALLS - 25 - 2;
        for (int i = 0; i < sheds; i++) {
            shed.play(0);
        }
        b.due("much is SHED at one column", shed.shed(5), 99 * sheds);
        b.due("and in all", shed.shed(-1), 6 * 99 * sheds);

        PaneThread wrong = new PaneThread();
        for (int i = 1; i < CALLS; i++) {
            wrong.status(7);
        }
        b.due("511 findings, told by the 512th call", wrong.status(-1), CALLS - 1);
    }

    /** What they answer is free, but none may throw: an exception ends this test. */
    private void laterCalls() {
        PaneThread x = new PaneThread();
        Histories.busy(x);
        int made = 0;
        for (int i = 0; i < 40; i++) {
            made += answers(x, allActs()).size();
        }
        b.holds("later calls end", made > 4 * CALLS);
    }

    private void groups() {
        List<String> lines = List.of(source.split("\n"));
        for (int g = 0; g < GROUPS.length; g++) {
            b.ofTerms("Ahead of the calls " + GROUPS[g]);
            int from = lines.indexOf("    // " + comment(g));
            int to = g + 1 < GROUPS.length ? lines.indexOf("    // " + comment(g + 1)) : lines.size();
            List<String> due = names("`(\\w+)`", GROUPS[g]);
            List<String> got = new ArrayList<>();
            for (int i = Math.max(0, from); i < to; i++) {
                got.addAll(names("^    public int (\\w+)\\(", lines.get(i)));
            }
            b.holds("the source says it, too", from >= 0 && got.equals(due));
        }
    }

    private static String comment(int group) {
        return GROUPS[group].replaceFirst(".*(?=----)", "").replaceFirst("\\.$", "");
    }

    private static List<String> names(String pattern, String text) {
        List<String> names = new ArrayList<>();
        Matcher m = Pattern.compile(pattern).matcher(text);
        while (m.find()) {
            names.add(m.group(1));
        }
        return names;
    }

    private void free() {
        b.of(Sentences.NOT_PROMISED, "How the state is held inside the object is free, as are the speed of each call,"
                + " the text of toString and the behaviour of equals and hashCode.");
        b.unchanged("toString, equals and hashCode", Histories::busy, x -> {
            String told = x.toString() + x.hashCode() + x.equals(new PaneThread());
            b.holds("they end", !told.isEmpty());
        });
    }

    private void twoObjects() {
        b.of(Sentences.NOT_PROMISED, "Use of one object from several threads at once is not promised to be safe.");
        PaneThread one = new PaneThread();
        PaneThread other = new PaneThread();
        Histories.busy(one);
        PaneThread alone = new PaneThread();
        Histories.busy(alone);
        PaneThread fresh = new PaneThread();
        List<Integer> got = new ArrayList<>();
        List<Integer> gotOfOther = new ArrayList<>();
        for (ToIntFunction<PaneThread> act : allActs()) {
            got.add(act.applyAsInt(one));
            gotOfOther.add(act.applyAsInt(other));
        }
        b.holds("two objects by turns: one", got.equals(answers(alone, allActs())));
        b.holds("two objects by turns: the other", gotOfOther.equals(answers(fresh, allActs())));
    }

    private void nothingBeyond() {
        b.of(Sentences.NOT_PROMISED, "Nothing is promised beyond the answers and state changes described above,"
                + " and nothing about an object after its 512th call.");
        List<Consumer<PaneThread>> histories = List.of(x -> { }, Histories::busy, Histories::eightDrops);
        for (int h = 0; h < histories.size(); h++) {
            b.unchanged("all that ask, behind history " + h, histories.get(h), x -> {
                for (ToIntFunction<PaneThread> act : asking()) {
                    act.applyAsInt(x);
                }
            });
        }
    }
}
