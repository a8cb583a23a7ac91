import java.util.LinkedHashMap;
import java.util.List;
import java.util.Map;
import java.util.regex.Matcher;
import java.util.regex.Pattern;

/** The document's sentences, by the promise under whose heading they stand; other headings have numbers below 1. */
final class Sentences {
    static final int NOT_PROMISED = -2;
    static final int WHAT_IT_IS = -1;
    static final int TERMS = 0;
    static final int PROMISES = 43;
    /** The numbers from here to PROMISES are headings. */
    static final int FIRST = NOT_PROMISED;

    private static final Map<String, Integer> HEADINGS =
            Map.of("What it is", WHAT_IT_IS, "Terms", TERMS, "Not promised", NOT_PROMISED);

    private final Map<Integer, List<String>> byPromise = new LinkedHashMap<>();

    Sentences(String document) {
        Matcher section = Pattern.compile("(?ms)^## ([^\\n]*)\\n(.*?)(?=^## |\\z)").matcher(document);
        while (section.find()) {
            Matcher promise = Pattern.compile("Promise (\\d+): .*").matcher(section.group(1));
            Integer number = promise.matches() ? Integer.valueOf(promise.group(1)) : HEADINGS.get(section.group(1));
            // "The public face" has no sentences; RulesTest holds the class against it.
            if (number != null) {
                byPromise.put(number, split(section.group(2)));
            }
        }
        if (byPromise.size() != PROMISES + HEADINGS.size()) {
            throw new IllegalArgumentException("the document has " + byPromise.size() + " headings with sentences");
        }
    }

    List<String> of(int promise) {
        return byPromise.getOrDefault(promise, List.of());
    }

    private static List<String> split(String text) {
        String plain = text.replaceFirst("`[^`]*\\)`: ", "").replace("```text", "").replace("```", "")
                .replaceAll("(?m)^\\d\\. ", "").replaceAll("\\s+", " ").trim();
        // Two points are no end of a sentence: "0, 1, .. (at most 6)".
        return List.of(plain.split("(?<=[^.]\\.) "));
    }
}
