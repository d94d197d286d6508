import java.io.IOException;
import java.nio.charset.StandardCharsets;
import java.nio.file.Files;
import java.nio.file.Path;
import java.util.Arrays;
import java.util.LinkedHashMap;
import java.util.Map;

/**
 * The document's own words: a case begins with the sentence that it tries, quoted. In the end no word of the terms and
 * of the promises may be left that no case has quoted, and no case may be without an answer that was compared.
 */
final class Document {
    private static final Path FILE = Path.of("..", "shared", "DOC.md");

    /** Of each part ("Term 1", "Promise 1" and so on) its words, and which of them are quoted so far. */
    private static final Map<String, String> WORDS = new LinkedHashMap<>();
    private static final Map<String, boolean[]> QUOTED = new LinkedHashMap<>();
    private static String latest = "";
    private static int checkedBefore = 0;

    private Document() {
    }

    /** Without the document only the quotes can't be tried: all answers are compared all the same. */
    static void open() throws IOException {
        if (!Files.isReadable(FILE)) {
            System.out.println("no " + FILE + ": quotes are not looked up");
            return;
        }
        String part = "";
        for (String line : Files.readAllLines(FILE, StandardCharsets.UTF_8)) {
            part = partOf(line, part);
            if (!part.isEmpty() && !line.startsWith("#") && !line.startsWith("```")) {
                WORDS.merge(part, plain(line.replaceFirst("^\\d\\. ", "")), (a, b) -> a + " " + b);
            }
        }
        WORDS.replaceAll((name, text) -> text.replaceAll("\\s+", " ").trim());
        WORDS.forEach((name, text) -> QUOTED.put(name, new boolean[text.length()]));
    }

    private static String partOf(String line, String before) {
        if (line.startsWith("## Promise ")) {
            return line.substring(3, line.indexOf(':'));
        }
        if (line.startsWith("## ")) {
            return line.equals("## What it is") ? "What it is" : line.equals("## Terms") ? "Terms" : "";
        }
        if (line.startsWith("The constants: ")) {
            return "Constants";
        }
        boolean inTerms = before.startsWith("Term");
        return inTerms && line.matches("\\d\\. .*") ? "Term " + line.charAt(0) : before;
    }

    /** A promise's line without the call's form, which FaceTest tries. */
    private static String plain(String line) {
        return line.replaceFirst("^`[^`]*`: ", "");
    }

    /** Begins a case: the part says so, in these words. */
    static void says(String part, String quote) {
        endCase();
        latest = part + ": " + quote;
        checkedBefore = Check.count();
        if (WORDS.isEmpty()) {
            return;
        }
        int at = WORDS.getOrDefault(part, "").indexOf(quote);
        if (at < 0) {
            throw new IllegalArgumentException("not said: " + latest);
        }
        Arrays.fill(QUOTED.get(part), at, at + quote.length(), true);
    }

    private static void endCase() {
        if (!latest.isEmpty() && Check.count() == checkedBefore) {
            throw new IllegalStateException("nothing was tried of " + latest);
        }
    }

    /** Compares what has not been quoted: nothing but the head of the whole document may be left. */
    static void close() {
        endCase();
        for (Map.Entry<String, String> part : WORDS.entrySet()) {
            StringBuilder left = new StringBuilder();
            boolean[] quoted = QUOTED.get(part.getKey());
            for (int i = 0; i < quoted.length; i++) {
                left.append(quoted[i] ? ' ' : part.getValue().charAt(i));
            }
            boolean isHead = part.getKey().equals("What it is");
            boolean none = isHead || left.toString().isBlank();
            Check.due("no case for '" + left.toString().trim() + "' of " + part.getKey(), none, true);
        }
    }
}
