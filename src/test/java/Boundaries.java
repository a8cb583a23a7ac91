import java.util.HashSet;
import java.util.Set;
import java.util.function.Consumer;
import java.util.function.ToIntFunction;

/**
 * Tests of boundary cases, each under the sentence of the document that it is of.
 * A sentence that the document hasn't, and one that no test is of, is wrong too.
 */
final class Boundaries {
    /** A call with one argument left open. */
    interface Act {
        int on(PaneThread x, int v);
    }

    private static final Consumer<PaneThread> BUSY = Histories::busy;

    private final Checks checks = new Checks();
    private final Sentences sentences;
    private final Set<String> tested = new HashSet<>();
    private int promise = Sentences.TERMS;
    private String sentence = "";

    Boundaries(Sentences sentences) {
        this.sentences = sentences;
    }

    /** What follows is of this sentence of a promise. */
    void of(int promise, String sentence) {
        this.promise = promise;
        this.sentence = sentence;
        checks.holds(label("that the document has this sentence"), sentences.of(promise).contains(sentence));
    }

    void ofTerms(String sentence) {
        of(Sentences.TERMS, sentence);
    }

    void due(String call, int got, int want) {
        checks.due(tested(call), got, want);
    }

    void holds(String what, boolean isSo) {
        checks.holds(tested(what), isSo);
    }

    /** A call behind a history answers a finding, is counted once, and changes nothing else. */
    void refused(String call, Consumer<PaneThread> history, ToIntFunction<PaneThread> act, int finding) {
        checks.refused(tested(call), history, act, finding);
    }

    void unchanged(String call, Consumer<PaneThread> history, Consumer<PaneThread> act) {
        checks.unchanged(tested(call), history, act);
    }

    /** From least to most an argument is taken; what is next to these, and the farthest, is BEYOND. */
    void bounds(String call, int least, int most, Act act) {
        bounds(call, least, most, BUSY, act);
    }

    void bounds(String call, int least, int most, Consumer<PaneThread> history, Act act) {
        taken(call, history, act, least);
        taken(call, history, act, most);
        int[] wrong = {least - 1, most + 1, Integer.MIN_VALUE, Integer.MAX_VALUE};
        for (int v : wrong) {
            refused(call + " with " + v, history, x -> act.on(x, v), Checks.BEYOND);
        }
    }

    private void taken(String call, Consumer<PaneThread> history, Act act, int v) {
        PaneThread x = new PaneThread();
        history.accept(x);
        int before = x.status(0);
        holds(call + " with " + v + " not being BEYOND", act.on(x, v) != Checks.BEYOND && x.status(0) == before);
    }

    void end(String name) {
        for (int p = Sentences.FIRST; p <= Sentences.PROMISES; p++) {
            checks.holds(heading(p) + " having sentences", !sentences.of(p).isEmpty());
            for (String s : sentences.of(p)) {
                checks.holds(place(p, s) + "having a test", tested.contains(place(p, s)));
            }
        }
        checks.end(name);
    }

    private String tested(String what) {
        tested.add(place(promise, sentence));
        return label(what);
    }

    private String label(String what) {
        return place(promise, sentence) + what;
    }

    private static String place(int promise, String sentence) {
        return heading(promise) + ", \"" + sentence + "\": ";
    }

    private static String heading(int promise) {
        switch (promise) {
            case Sentences.NOT_PROMISED:
                return "not promised";
            case Sentences.WHAT_IT_IS:
                return "what it is";
            case Sentences.TERMS:
                return "terms";
            default:
                return "promise " + promise;
        }
    }
}
