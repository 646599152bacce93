import java.util.ArrayList;
import java.util.List;
import java.util.Map;
import java.util.TreeMap;

/**
 * The sentences of the document by section. Each test says which one it is for, in the document's own words;
 * at the end of a test class no sentence of its sections may be left without a test.
 */
final class Sentence {
    private static final Map<String, List<String>> all = readSentences();
    private static final Map<String, List<String>> untested = readSentences();

    private Sentence() {
    }

    /** Runs each test; one that ends by an exception is told as wrong, and the others are run all the same. */
    static void test(Runnable... tests) {
        for (Runnable test : tests) {
            try {
                test.run();
            } catch (RuntimeException e) {
                Check.same("the test ends by", e, "itself");
            }
        }
    }

    /** The checks from now on are for this sentence of a promise. */
    static void of(int promise, String words) {
        begin("Promise " + promise, "Promise " + promise, words);
    }

    /** The checks from now on are for this sentence ahead of the promises, which shows in these promises. */
    static void ahead(String section, String promises, String words) {
        begin(section, "Promises " + promises + " by " + section, words);
    }

    /** Tells the sentences of these sections that no test was for, and ends. */
    static void end(String... sections) {
        Check.about("untested sentences");
        for (String section : sections) {
            Check.same(section, untested.getOrDefault(section, List.of()), List.of());
        }
        Check.end();
    }

    private static void begin(String section, String title, String words) {
        Check.about(title + ": " + words);
        if (Document.isThere()) {
            Check.same("it stands in the document",
                    all.getOrDefault(section, List.of()).contains(words), true);
            untested.getOrDefault(section, new ArrayList<>()).remove(words);
        }
    }

    private static Map<String, List<String>> readSentences() {
        Map<String, List<String>> sections = new TreeMap<>();
        for (String section : Document.sections()) {
            List<String> sentences = new ArrayList<>();
            for (String line : Document.linesOf(section)) {
                addSentences(section, line, sentences);
            }
            sections.put(section, sentences);
        }
        return sections;
    }

    private static void addSentences(String section, String line, List<String> sentences) {
        if (section.startsWith("Promise ")) {
            sentences.add(line.replaceFirst("^- ", "").replaceFirst("^`[^`]*\\([^`]*`: ", ""));
            return;
        }
        for (String words : line.split("(?<=\\.) (?=[A-Z])")) {
            // FaceTest has tests for how the face is laid out; "Pins." is the name of a paragraph.
            boolean asksNothing = words.startsWith("Ahead of the calls ") || words.equals("Pins.");
            boolean isTitle = section.equals(Document.FIRST_SECTION) && sentences.isEmpty()
                    && words.startsWith("A herder");
            if (!asksNothing && !isTitle) {
                sentences.add(words);
            }
        }
    }
}
