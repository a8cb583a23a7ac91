import java.util.ArrayList;
import java.util.List;
import java.util.function.Consumer;
import java.util.function.ToIntFunction;

/** What the tests share: the findings, counting of wrong answers, and views of an object's state. */
final class Checks {
    static final int BEYOND = -1000001;
    static final int FULL = -1000002;
    static final int KIND = -1000003;
    static final int NONE = -1000004;
    static final int MISSING = -1000006;
    static final int SIZE = -1000007;

    private static final Consumer<PaneThread> NO_CALL = x -> { };
    private static final int VIEWS = 6;

    private int wrong = 0;
    private int asked = 0;

    void due(String label, int got, int want) {
        asked++;
        if (got != want) {
            wrong++;
            System.out.println(label + " answered " + got + ", due is " + want);
        }
    }

    void holds(String label, boolean isSo) {
        asked++;
        if (!isSo) {
            wrong++;
            System.out.println(label + " does not hold");
        }
    }

    /** A call behind a history answers a finding, is counted as that, and changes nothing else. */
    void refused(String label, Consumer<PaneThread> history, ToIntFunction<PaneThread> call, int finding) {
        PaneThread x = new PaneThread();
        history.accept(x);
        int[] before = statusOf(x);
        due(label, call.applyAsInt(x), finding);
        int[] after = statusOf(x);
        before[0]++;
        before[1 + BEYOND - finding]++;
        for (int i = 0; i < before.length; i++) {
            due(label + ", then status(" + (i - 1) + ")", after[i], before[i]);
        }
        unchanged(label, history, call::applyAsInt);
    }

    /** A call behind a history leaves all that can be seen as it was, but for status. */
    void unchanged(String label, Consumer<PaneThread> history, Consumer<PaneThread> call) {
        holds(label + " changing nothing", viewsBehind(history, call).equals(viewsBehind(history, NO_CALL)));
    }

    /** A call behind a history changes something that can be seen. */
    void changed(String label, Consumer<PaneThread> history, Consumer<PaneThread> call) {
        holds(label + " changing something", !viewsBehind(history, call).equals(viewsBehind(history, NO_CALL)));
    }

    /** Four bytes a call, as an object has 512 calls and looking at it takes most of them. */
    static int feedAll(PaneThread x, String text) {
        int answer = 0;
        for (int i = 0; i < text.length(); i += 4) {
            String some = text.substring(i, Math.min(i + 4, text.length()));
            answer = x.feed(pack(some), some.length());
        }
        return answer;
    }

    /** The number whose lowest bytes are these, the first one highest. */
    static int pack(String text) {
        int packed = 0;
        for (int i = 0; i < text.length(); i++) {
            packed = packed << 8 | text.charAt(i);
        }
        return packed;
    }

    static int programFrom(PaneThread x, String text) {
        x.wipe();
        feedAll(x, text);
        return x.program();
    }

    void end(String name) {
        System.out.println(name + ": " + asked + " asked, " + wrong + " wrong");
        if (wrong != 0) {
            System.exit(1);
        }
    }

    private static int[] statusOf(PaneThread x) {
        int[] status = new int[8];
        for (int i = 0; i < 8; i++) {
            status[i] = x.status(i - 1);
        }
        return status;
    }

    /** Each view looks at a new object behind the same calls, as looking at all takes more than 512 calls. */
    private static List<Integer> viewsBehind(Consumer<PaneThread> history, Consumer<PaneThread> call) {
        List<Integer> seen = new ArrayList<>();
        for (int view = 0; view < VIEWS; view++) {
            PaneThread x = new PaneThread();
            history.accept(x);
            call.accept(x);
            look(x, view, seen);
        }
        return seen;
    }

    private static void look(PaneThread x, int view, List<Integer> seen) {
        switch (view) {
            case 0:
                lookAtNumbers(x, seen);
                break;
            case 1:
                lookAtCells(x, seen);
                break;
            case 2:
                lookAtSheets(x, seen);
                break;
            case 3:
                seen.add(x.undo());
                lookAtNumbers(x, seen);
                break;
            case 4:
                seen.add(x.undo());
                lookAtCells(x, seen);
                break;
            default:
                lookAtPrograms(x, seen);
                break;
        }
    }

    private static void lookAtNumbers(PaneThread x, List<Integer> seen) {
        for (int what = 0; what < 8; what++) {
            seen.add(x.count(what));
        }
        for (int drop = 0; drop < 8; drop++) {
            for (int what = 0; what < 4; what++) {
                seen.add(x.dropOf(drop, what));
            }
        }
        for (int column = -1; column < 12; column++) {
            seen.add(x.shed(column));
        }
        for (int spot = 0; spot < 10; spot++) {
            seen.add(x.as(spot, 0));
        }
        seen.add(x.set(0, 0));
        seen.add(x.set(1, 0));
        seen.add(x.set(2, 0));
        seen.add(x.program());
        for (int program = 0; program < 6; program++) {
            seen.add(x.programOf(program, 0));
            seen.add(x.programOf(program, 1));
        }
    }

    private static void lookAtCells(PaneThread x, List<Integer> seen) {
        for (int cell = 0; cell < 192; cell++) {
            seen.add(x.cellOf(cell, 0));
            seen.add(x.cellOf(cell, 1));
        }
    }

    /** Their deeds are seen only by what they do. */
    private static void lookAtPrograms(PaneThread x, List<Integer> seen) {
        for (int program = 0; program < 6; program++) {
            seen.add(x.play(program));
        }
        lookAtNumbers(x, seen);
    }

    private static void lookAtSheets(PaneThread x, List<Integer> seen) {
        for (int s = 0; s < 4; s++) {
            seen.add(x.load(s, 0));
            for (int cell = 0; cell < 40; cell++) {
                seen.add(x.cellOf(cell, 0));
            }
            for (int kind = 0; kind < 8; kind++) {
                seen.add(x.judge(s, kind));
            }
        }
    }
}
