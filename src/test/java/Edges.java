import java.io.IOException;
import java.nio.file.Files;
import java.nio.file.Path;
import java.util.Arrays;
import java.util.LinkedHashMap;
import java.util.Map;

/**
 * Scripts that stand beside a sentence of the document. The sentence must stand there, in the part that is
 * named; behind the last script every word of "Terms" and of the promises must have been beside one.
 */
final class Edges {
    static final String TERMS = "Terms";

    /** By the part's heading: its words, one blank between them, and which signs stood beside a script. */
    private static final Map<String, String> TEXTS = new LinkedHashMap<>();
    private static final Map<String, boolean[]> BESIDE = new LinkedHashMap<>();

    private Edges() {
    }

    static void terms(String sentence, String script) {
        run(TERMS, sentence, script);
    }

    static void promise(int number, String sentence, String script) {
        run("Promise " + number, sentence, script);
    }

    static void run(String part, String sentence, String script) {
        String title = part + ": " + sentence;
        String text = TEXTS.getOrDefault(part, "");
        int at = text.indexOf(sentence);
        if (at < 0) {
            Script.fail(title, "the document doesn't say this");
        }
        while (at >= 0) {
            Arrays.fill(BESIDE.get(part), at, at + sentence.length(), true);
            at = text.indexOf(sentence, at + 1);
        }
        Script.run(title, script);
    }

    static void readDocument(Path document) throws IOException {
        for (String section : Files.readString(document).split("\n## ")) {
            String heading = section.substring(0, section.indexOf('\n'));
            String body = section.substring(heading.length());
            String part = heading.replaceFirst(":.*", "");
            TEXTS.put(part, wordsOf(body));
            BESIDE.put(part, new boolean[TEXTS.get(part).length()]);
        }
    }

    /** Without numbers of paragraphs, fences, an act's face, and what only tells what stands ahead of an act. */
    private static String wordsOf(String body) {
        return body.replaceAll("(?m)^Ahead of the calls .*$", "")
            .replaceAll("(?m)^\\d\\. ", "")
            .replaceAll("(?m)^```.*$", "")
            .replaceAll("(?m)^`[^`]*`: ", "")
            .replaceAll("\\s+", " ").trim();
    }

    static void askAllWords() {
        for (Map.Entry<String, String> part : TEXTS.entrySet()) {
            if (part.getKey().equals(TERMS) || part.getKey().startsWith("Promise ")) {
                askWords(part.getKey(), part.getValue());
            }
        }
    }

    private static void askWords(String part, String text) {
        boolean[] beside = BESIDE.get(part);
        StringBuilder alone = new StringBuilder();
        for (int i = 0; i <= text.length(); i++) {
            if (i < text.length() && !beside[i]) {
                alone.append(text.charAt(i));
            } else if (!alone.toString().isBlank()) {
                Script.fail(part, "no script is beside: " + alone);
                alone.setLength(0);
            } else {
                alone.setLength(0);
            }
        }
    }
}
