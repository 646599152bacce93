import java.io.IOException;
import java.nio.file.Files;
import java.nio.file.Path;
import java.util.ArrayList;
import java.util.List;
import java.util.Map;
import java.util.TreeMap;

/**
 * The sentences of the document by section. Each test says which one it is for, in the document's own words;
 * at the end of a test class no sentence of its sections may be left without a test.
 */
final class Sentence {
    private static final Path DOCUMENT = Path.of("../shared/DOC.md");
    private static final String FIRST_SECTION = "What it is";

    private static final Map<String, List<String>> all = readDocument();
    private static final Map<String, List<String>> untested = readDocument();

    private Sentence() {
    }

    /** Runs each test; one that ends by an exception is told as wrong, and the others are run all the same. */
    static void test(Runnable... tests) {
        for (Runnable test : tests) {
            try {
                test.run();
            } catch (RuntimeException e) {
                Check.same("the test ends by", e, "itself");
            }
        }
    }

    /** The checks from now on are for this sentence of a promise. */
    static void of(int promise, String words) {
        begin("Promise " + promise, "Promise " + promise, words);
    }

    /** The checks from now on are for this sentence ahead of the promises, which shows in these promises. */
    static void ahead(String section, String promises, String words) {
        begin(section, "Promises " + promises + " by " + section, words);
    }

    /** Tells the sentences of these sections that no test was for, and ends. */
    static void end(String... sections) {
        Check.about("untested sentences");
        for (String section : sections) {
            Check.same(section, untested.getOrDefault(section, List.of()), List.of());
        }
        Check.end();
    }

    private static void begin(String section, String title, String words) {
        Check.about(title + ": " + words);
        if (!all.isEmpty()) {
            Check.same("it stands in the document",
                    all.getOrDefault(section, List.of()).contains(words), true);
            untested.getOrDefault(section, new ArrayList<>()).remove(words);
        }
    }

    /** Without the document its words can't be compared, but the checks of the class can still be done. */
    private static Map<String, List<String>> readDocument() {
        Map<String, List<String>> sections = new TreeMap<>();
        if (!Files.isReadable(DOCUMENT)) {
            System.out.println("there is no " + DOCUMENT + " to compare the tests' sentences with");
            return sections;
        }
        try {
            String section = "";
            for (String line : Files.readAllLines(DOCUMENT)) {
                if (line.startsWith("## ")) {
                    section = line.substring(3).replaceAll(":.*", "");
                    sections.put(section, new ArrayList<>());
                } else if (!line.isEmpty() && sections.containsKey(section)) {
                    addSentences(section, line, sections.get(section));
                }
            }
        } catch (IOException e) {
            throw new IllegalStateException(e);
        }
        return sections;
    }

    private static void addSentences(String section, String line, List<String> sentences) {
        if (section.startsWith("Promise ")) {
            sentences.add(line.replaceFirst("^- ", "").replaceFirst("^`[^`]*\\([^`]*`: ", ""));
            return;
        }
        for (String words : line.split("(?<=\\.) (?=[A-Z])")) {
            // These two kinds tell how the face is laid out, and the name of a paragraph.
            boolean asksNothing = words.startsWith("Ahead of the calls ") || words.equals("Pins.");
            boolean isTitle = section.equals(FIRST_SECTION) && sentences.isEmpty() && words.startsWith("A herder");
            if (!asksNothing && !isTitle) {
                sentences.add(words);
            }
        }
    }
}
