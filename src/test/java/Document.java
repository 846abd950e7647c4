import java.io.IOException;
import java.nio.file.Files;
import java.nio.file.Path;
import java.util.ArrayList;
import java.util.Comparator;
import java.util.List;
import java.util.Map;
import java.util.TreeMap;

/** The document's own text, by its sections, to see that no sentence of it is without a test or a word on it. */
final class Document {
    private final Map<String, String> sections = new TreeMap<>();

    Document(Path path) throws IOException {
        for (String part : Files.readString(path).split("(?m)^## ")) {
            String name = part.lines().findFirst().orElse("");
            if (name.equals("What it is") || name.equals("Terms") || name.startsWith("Promise ")) {
                sections.put(name, plain(part.substring(name.length())));
            }
        }
    }

    /** A line's end counts as a blank; the head of a call is FaceTest's. */
    private static String plain(String text) {
        return text.replaceAll("```(text)?", " ").replaceAll("\\s+", " ")
            .replaceFirst("^ `[^`]*\\)[^`]*`: ", " ");
    }

    /** Each of the words stands in its section, and the section has none beside them. */
    void isCovered(Map<String, List<String>> words, Checks checks) {
        checks.due("the document's sections", words.keySet(), sections.keySet());
        for (Map.Entry<String, String> section : sections.entrySet()) {
            List<String> longestFirst = new ArrayList<>(words.getOrDefault(section.getKey(), List.of()));
            longestFirst.sort(Comparator.comparing(String::length).reversed());
            String left = section.getValue();
            for (String sentence : longestFirst) {
                int at = left.indexOf(sentence);
                checks.due(section.getKey() + " says: " + sentence, at >= 0, true);
                if (at >= 0) {
                    left = left.substring(0, at) + "|" + left.substring(at + sentence.length());
                }
            }
            checks.due(section.getKey() + " beside its tests", left.replaceAll("[| ]", ""), "");
        }
    }
}
