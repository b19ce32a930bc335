import java.io.IOException;
import java.nio.file.Files;
import java.nio.file.Path;
import java.util.Map;
import java.util.Set;
import java.util.TreeMap;
import java.util.TreeSet;

/**
 * Which sentence of the document a test holds. The sentences are looked up in the document itself, so
 * that none is made up, and none that names an exception or an answer is left without a test.
 */
final class Sentences {
    private static final Map<String, Set<String>> held = new TreeMap<>();

    private Sentences() {
    }

    /** The test that follows holds this sentence of the terms. */
    static void term(String sentence) {
        begin("Terms", "", sentence);
    }

    /** The test that follows holds a case of this sentence of the terms, told by a few words. */
    static void term(String sentence, String about) {
        begin("Terms", about, sentence);
    }

    /** The test that follows holds this sentence of the promise. */
    static void promise(int number, String sentence) {
        begin("Promise " + number, "", sentence);
    }

    /** The test that follows holds a case of this sentence of the promise, told by a few words. */
    static void promise(int number, String sentence, String about) {
        begin("Promise " + number, about, sentence);
    }

    static void begin(String section, String about, String sentence) {
        held.computeIfAbsent(section, key -> new TreeSet<>()).add(sentence);
        Checks.under(section + ", \"" + sentence + "\"" + (about.isEmpty() ? "" : ", " + about) + ": ");
    }

    /** Looks up every sentence in the document, and every "Throws" and "Returns" of it here. */
    static void lookUp(Path document) throws IOException {
        Checks.under("");
        Map<String, String> sections = sections(Files.readString(document));
        held.forEach((section, sentences) -> {
            for (String sentence : sentences) {
                Checks.same("'" + sentence + "' stands in " + section,
                        "" + sections.getOrDefault(section, "").contains(sentence), "true");
            }
        });
        sections.forEach((section, text) -> {
            for (String line : text.split("\n")) {
                if (section.startsWith("Promise ") && line.matches("(Throws|Returns|Creates) .*")) {
                    String sentence = line.trim();
                    Checks.same("'" + sentence + "' of " + section + " has a test", "" + hasTest(section, sentence),
                            "true");
                }
            }
        });
    }

    private static boolean hasTest(String section, String sentence) {
        return held.getOrDefault(section, Set.of()).stream().anyMatch(sentence::equals);
    }

    /** The texts of the document by the words that their headings begin with. */
    private static Map<String, String> sections(String document) {
        Map<String, String> sections = new TreeMap<>();
        for (String part : document.split("\n## ")) {
            String heading = part.lines().findFirst().orElse("");
            sections.put(heading.split(":")[0], part);
        }
        return sections;
    }
}
