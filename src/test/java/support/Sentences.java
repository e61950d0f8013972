import java.io.IOException;
import java.io.UncheckedIOException;
import java.nio.file.Files;
import java.nio.file.Path;
import java.util.ArrayList;
import java.util.LinkedHashMap;
import java.util.List;
import java.util.Map;

/**
 * The document's words. A test names the words it looks at before it asks; they must stand in the
 * document, some answers must be due by them, and in the end no words may be left without a test.
 * Where the document isn't at hand the answers are looked at all the same, the words are not.
 */
final class Sentences {
    private static final Path DOCUMENT = Path.of("../shared/DOC.md");
    private static final Map<String, StringBuilder> LEFT = new LinkedHashMap<>();
    private static final Map<String, String> SECTIONS = new LinkedHashMap<>();
    private static final List<String> WITHOUT_ANSWER = new ArrayList<>();
    private static String latest;
    private static int askedBefore;

    private Sentences() {
    }

    /** From here on answers are due by these words of a section: "Terms", "Promise 7". */
    static void by(String section, String words) {
        endLatest();
        latest = section + " <" + words + ">";
        Due.heading(latest);
        if (hasDocument()) {
            takeOut(section, words);
        }
        askedBefore = Due.asked();
    }

    private static void takeOut(String section, String words) {
        String all = SECTIONS.getOrDefault(section, "");
        int from = all.indexOf(words);
        Due.is("these words stand in the document", from >= 0 ? 1 : 0, 1);
        while (from >= 0) {
            for (int i = from; i < from + words.length(); i++) {
                LEFT.get(section).setCharAt(i, ' ');
            }
            from = all.indexOf(words, from + 1);
        }
    }

    /** Whether each word of these sections was looked at, and something was due by all of them. */
    static void end(String... sections) {
        endLatest();
        Due.heading("");
        for (String words : WITHOUT_ANSWER) {
            Due.is("answers due by " + words, 0, 1);
        }
        if (!hasDocument()) {
            System.out.println("no document at " + DOCUMENT + ": its words were not looked at");
            return;
        }
        for (String section : sections) {
            String left = LEFT.get(section).toString().replaceAll("[^a-zA-Z0-9]+", " ").trim();
            Due.is(section + " has words without a test: " + left, left.length(), 0);
        }
    }

    private static void endLatest() {
        if (latest != null && Due.asked() == askedBefore) {
            WITHOUT_ANSWER.add(latest);
        }
        latest = null;
    }

    private static boolean hasDocument() {
        if (SECTIONS.isEmpty() && Files.isReadable(DOCUMENT)) {
            readDocument();
        }
        return !SECTIONS.isEmpty();
    }

    private static void readDocument() {
        String all;
        try {
            all = Files.readString(DOCUMENT);
        } catch (IOException e) {
            throw new UncheckedIOException(e);
        }
        for (String part : all.split("\n## ")) {
            String title = part.substring(0, part.indexOf('\n'));
            String name = title.contains(":") ? title.substring(0, title.indexOf(':')) : title;
            String body = part.substring(part.indexOf('\n'))
                    .replaceAll("```(text)?|==== \\d\\.", " ")
                    .replaceAll("(?m)^`.*?`: ", "").replaceAll("\\s+", " ");
            SECTIONS.put(name, body);
            LEFT.put(name, new StringBuilder(body));
        }
    }
}
