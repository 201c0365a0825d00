import java.io.IOException;
import java.nio.file.Files;
import java.nio.file.Path;
import java.util.ArrayList;
import java.util.Arrays;
import java.util.LinkedHashMap;
import java.util.List;
import java.util.Map;

/** The document's sections, and which of their sentences a test has named. */
final class Document {
    private static final String[] COMMON = {"Terms", "What it is", "The public face"};

    private final Map<String, String> sections = new LinkedHashMap<>();
    private final Map<String, boolean[]> named = new LinkedHashMap<>();

    Document() throws IOException {
        for (String part : Files.readString(Path.of("../shared/DOC.md")).split("(?m)^## ")) {
            String[] titleAndRest = part.split("\n", 2);
            String text = titleAndRest[1].replace("```text", "").replace("```", "").replaceAll("\\s+", " ");
            sections.put(titleAndRest[0].trim(), text);
            named.put(titleAndRest[0].trim(), new boolean[text.length()]);
        }
    }

    private String titleOf(int promise) {
        for (String title : sections.keySet()) {
            if (title.startsWith("Promise " + promise + ":")) {
                return title;
            }
        }
        throw new IllegalStateException("the document has no promise " + promise);
    }

    /** Whether the sentence stands in the promise's section, or in one that tells of all promises. */
    boolean name(int promise, String sentence) {
        List<String> titles = new ArrayList<>(List.of(titleOf(promise)));
        titles.addAll(List.of(COMMON));
        for (String title : titles) {
            int begin = sections.get(title).indexOf(sentence);
            if (begin >= 0) {
                Arrays.fill(named.get(title), begin, begin + sentence.length(), true);
                return true;
            }
        }
        return false;
    }

    /** What no test has named of the promises and terms, but for signatures and what the calls stand under. */
    List<String> unnamed() {
        List<String> left = new ArrayList<>();
        sections.forEach((title, text) -> {
            if (title.startsWith("Promise ") || title.equals("Terms")) {
                String rest = rest(text, named.get(title));
                rest = rest.replaceAll("`[^`]*`: ", "").replaceAll("Ahead of the calls .*? the model\\.", "");
                for (String piece : rest.split("\n")) {
                    if (piece.matches(".*\\w.*")) {
                        left.add(title + ": " + piece.trim());
                    }
                }
            }
        });
        return left;
    }

    private static String rest(String text, boolean[] covered) {
        StringBuilder rest = new StringBuilder();
        for (int i = 0; i < text.length(); i++) {
            rest.append(covered[i] ? '\n' : text.charAt(i));
        }
        return rest.toString();
    }
}
