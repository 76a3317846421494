import java.io.IOException;
import java.nio.charset.StandardCharsets;
import java.nio.file.Files;
import java.nio.file.Path;
import java.util.LinkedHashMap;
import java.util.Map;
import java.util.regex.Matcher;
import java.util.regex.Pattern;

/**
 * The document's own words. A test of an edge names its promise (or its part of the Terms) and its sentence; here it
 * is looked up that the sentence stands there, and at the end that no word of a promise was left out.
 */
final class Document {
    private static final Path FILE = Path.of("../shared/DOC.md");
    private static final String[] TERMS = {"I", "II", "III", "IV"};
    private static final Map<String, String> SECTIONS = new LinkedHashMap<>();
    private static final Map<String, boolean[]> TOLD = new LinkedHashMap<>();

    private static String edge = "";
    private static int askedBefore;

    static {
        read();
    }

    private Document() {
    }

    /** What is asked from here on, up to the next edge, holds a sentence that names a boundary case. */
    static void edge(String section, String sentence) {
        close();
        edge = section + ": \"" + sentence + "\"";
        askedBefore = Checks.asked();
        tell(section, sentence);
        Checks.about(edge);
    }

    /** Words that name no boundary case; what they say is held by the other tests. */
    static void plain(String section, String words) {
        close();
        tell(section, words);
    }

    /** Every word of these sections was told, as an edge or as plain. */
    static void whole(String... sections) {
        close();
        for (String section : sections) {
            Checks.due("words of " + section + " without a test: " + untold(section), untold(section).isEmpty(), true);
        }
    }

    private static void close() {
        Checks.about("");
        if (!edge.isEmpty()) {
            Checks.due("asked for " + edge, Checks.asked() > askedBefore, true);
        }
        edge = "";
    }

    private static void tell(String section, String words) {
        if (SECTIONS.isEmpty()) {
            return;
        }
        String text = SECTIONS.getOrDefault(section, "");
        int from = text.indexOf(words);
        Checks.due(section + " says \"" + words + "\"", from >= 0, true);
        while (from >= 0) {
            for (int k = 0; k < words.length(); k++) {
                TOLD.get(section)[from + k] = true;
            }
            from = text.indexOf(words, from + 1);
        }
    }

    private static String untold(String section) {
        StringBuilder out = new StringBuilder();
        String text = SECTIONS.getOrDefault(section, "");
        for (int k = 0; k < text.length(); k++) {
            boolean left = Character.isLetterOrDigit(text.charAt(k)) && !TOLD.get(section)[k];
            out.append(left ? text.charAt(k) : ' ');
        }
        return out.toString().trim().replaceAll(" +", " ");
    }

    private static void read() {
        if (!Files.isReadable(FILE)) {
            System.out.println("no document at " + FILE + ": its sentences are not looked up");
            return;
        }
        String text;
        try {
            text = Files.readString(FILE, StandardCharsets.UTF_8);
        } catch (IOException e) {
            throw new IllegalStateException(e);
        }
        put("What it is", between(text, "## What it is\n", "\n## "));
        String terms = between(text, "## Terms\n", "\n## ");
        for (int k = 0; k < TERMS.length; k++) {
            put(TERMS[k], between(terms, "\n" + TERMS[k] + ". ", k < 3 ? "\n" + TERMS[k + 1] + ". " : "\nThe constants: "));
        }
        Matcher matcher = Pattern.compile("\n## Promise (\\d+): [^\n]*\n\\s*`[^`]*`: ([^\n]*)").matcher(text);
        while (matcher.find()) {
            put("promise " + matcher.group(1), matcher.group(2));
        }
    }

    private static String between(String text, String from, String to) {
        int start = text.indexOf(from);
        int end = start < 0 ? -1 : text.indexOf(to, start + from.length());
        return start < 0 ? "" : text.substring(start + from.length(), end < 0 ? text.length() : end);
    }

    private static void put(String section, String text) {
        String plain = text.replace("```text", " ").replace("```", " ").replaceAll("\\s+", " ").trim();
        SECTIONS.put(section, plain);
        TOLD.put(section, new boolean[plain.length()]);
    }
}
