import java.io.IOException;
import java.nio.file.Files;
import java.nio.file.Path;
import java.util.LinkedHashMap;
import java.util.Map;

/**
 * The document's own words beside the tests of them: says() begins the test of a sentence. Each quote must stand in its
 * part of the document (a term, a constant or a promise), each word of these parts in a quote, and no quote may be
 * without an answer that was asked.
 */
final class Says {
    private static final Path DOCUMENT = Path.of("../shared/DOC.md");

    private static final Map<String, String> parts = new LinkedHashMap<>();
    private static final Map<String, boolean[]> quoted = new LinkedHashMap<>();
    private static String now = "";
    private static int askedAhead = 0;

    private Says() {
    }

    static void begin() throws IOException {
        if (!Files.exists(DOCUMENT)) {
            System.out.println("no " + DOCUMENT + ": quotes are not compared");
            return;
        }
        String part = "";
        for (String line : Files.readAllLines(DOCUMENT)) {
            part = partOf(part, line);
            if (!part.isEmpty()) {
                parts.merge(part, " " + wordsOf(line), String::concat);
            }
        }
        parts.replaceAll((name, text) -> oneBlank(text));
        parts.forEach((name, text) -> quoted.put(name, new boolean[text.length()]));
        Check.due("the document's parts: I to III, two constants, 40 promises", parts.size(), 45);
    }

    /** The part to which a line belongs: I, II, III, NONE, NOTHING, 1 to 40; empty for what no test has to quote. */
    private static String partOf(String part, String line) {
        if (line.matches("I+\\. .*")) {
            return line.substring(0, line.indexOf('.'));
        }
        if (line.matches("(The constants: )?`(NONE|NOTHING) = .*")) {
            return line.contains("`NONE") ? "NONE" : "NOTHING";
        }
        if (line.matches("## Promise \\d+: .*")) {
            return line.substring(11, line.indexOf(':'));
        }
        return line.startsWith("#") || line.startsWith("Ahead of") ? "" : part;
    }

    /** A line without headings, signatures and fences. */
    private static String wordsOf(String line) {
        return line.replaceAll("^(I+\\. |## .*|```.*|The constants: )", "").replaceAll("^`[^`]*`: ", "");
    }

    private static String oneBlank(String text) {
        return text.replaceAll("\\s+", " ").trim();
    }

    /** Begins the test of these words of a part. */
    static void says(String part, String words) {
        due();
        now = part + ": " + words;
        String text = parts.get(part);
        if (text == null) {
            Check.due("there is a part " + part, parts.isEmpty(), true);
            return;
        }
        int from = text.indexOf(words);
        Check.due("the document says: " + now, from >= 0, true);
        for (; from >= 0; from = text.indexOf(words, from + 1)) {
            for (int i = from; i < from + words.length(); i++) {
                quoted.get(part)[i] = true;
            }
        }
        askedAhead = Check.asked();
        Check.beside(now);
    }

    static void says(int promise, String words) {
        says("" + promise, words);
    }

    private static void due() {
        Check.beside("");
        if (!now.isEmpty()) {
            Check.due("asked of: " + now, Check.asked() > askedAhead, true);
        }
    }

    /** Tells the words that no test has quoted. */
    static void finish() {
        due();
        parts.forEach((name, text) -> {
            StringBuilder left = new StringBuilder();
            for (int i = 0; i < text.length(); i++) {
                left.append(quoted.get(name)[i] ? ' ' : text.charAt(i));
            }
            String words = oneBlank(left.toString());
            Check.due("no test of " + name + ": " + words, words.isEmpty(), true);
        });
    }
}
