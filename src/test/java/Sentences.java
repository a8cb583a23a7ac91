import java.util.ArrayList;
import java.util.LinkedHashMap;
import java.util.List;
import java.util.Map;
import java.util.regex.Matcher;
import java.util.regex.Pattern;

/** The document's sentences, by the promise under whose heading they stand; those of "Terms" stand under 0. */
final class Sentences {
    static final int TERMS = 0;
    static final int PROMISES = 43;

    private final Map<Integer, List<String>> byPromise = new LinkedHashMap<>();

    Sentences(String document) {
        int terms = document.indexOf("## Terms");
        int first = document.indexOf("## Promise 1:");
        if (terms < 0 || first < terms) {
            throw new IllegalArgumentException("the document has no terms ahead of its promises");
        }
        byPromise.put(TERMS, split(document.substring(terms + "## Terms".length(), first)));
        Matcher promise = Pattern.compile("## Promise (\\d+): [^\\n]*\\n(.*?)(?=\\n## |\\z)", Pattern.DOTALL)
                .matcher(document);
        while (promise.find()) {
            byPromise.put(Integer.parseInt(promise.group(1)), split(promise.group(2)));
        }
        if (byPromise.size() != PROMISES + 1) {
            throw new IllegalArgumentException("the document has " + (byPromise.size() - 1) + " promises");
        }
    }

    List<String> of(int promise) {
        return byPromise.getOrDefault(promise, List.of());
    }

    private static List<String> split(String text) {
        String plain = text.replaceFirst("`[^`]*\\)`: ", "").replace("```text", "").replace("```", "")
                .replaceAll("(?m)^\\d\\. ", "").replaceAll("\\s+", " ").trim();
        List<String> sentences = new ArrayList<>();
        // Two points are no end of a sentence: "0, 1, .. (at most 6)".
        for (String sentence : plain.split("(?<=[^.]\\.) ")) {
            // These tell the order of the calls in the interface, and ask for nothing.
            if (!sentence.startsWith("Ahead of the calls")) {
                sentences.add(sentence);
            }
        }
        return sentences;
    }
}
