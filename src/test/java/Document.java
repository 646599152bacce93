import java.io.IOException;
import java.nio.file.Files;
import java.nio.file.Path;
import java.util.ArrayList;
import java.util.List;
import java.util.Map;
import java.util.TreeMap;

/** The lines of the document by section; without the document there are none. */
final class Document {
    static final String FIRST_SECTION = "What it is";
    static final String FACE = "The public face";

    private static final Path FILE = Path.of("../shared/DOC.md");
    private static final Map<String, List<String>> SECTIONS = read();

    private Document() {
    }

    /** Without the document its words can't be compared, but the checks of the class can still be done. */
    static boolean isThere() {
        return !SECTIONS.isEmpty();
    }

    static Iterable<String> sections() {
        return SECTIONS.keySet();
    }

    /** A section is named by what stands ahead of the colon in its heading. */
    static List<String> linesOf(String section) {
        return SECTIONS.getOrDefault(section, List.of());
    }

    private static Map<String, List<String>> read() {
        Map<String, List<String>> sections = new TreeMap<>();
        if (!Files.isReadable(FILE)) {
            System.out.println("there is no " + FILE + " to compare the tests' words with");
            return sections;
        }
        try {
            String section = "";
            for (String line : Files.readAllLines(FILE)) {
                if (line.startsWith("## ")) {
                    section = line.substring(3).replaceAll(":.*", "");
                    sections.put(section, new ArrayList<>());
                } else if (!line.isEmpty() && sections.containsKey(section)) {
                    sections.get(section).add(line);
                }
            }
        } catch (IOException e) {
            throw new IllegalStateException(e);
        }
        return sections;
    }
}
