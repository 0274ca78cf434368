import java.io.IOException;
import java.nio.file.Files;
import java.nio.file.Path;
import java.util.ArrayList;
import java.util.HashSet;
import java.util.LinkedHashMap;
import java.util.List;
import java.util.Map;
import java.util.Set;

/**
 * The sentences of ../shared/DOC.md. A test names the sentence that it is for before it checks it;
 * at the end each sentence must have been named, and each name must stand in the document.
 */
final class Doc {
    private static final Path FILE = Path.of("..", "shared", "DOC.md");
    private static final Set<String> NAMED = new HashSet<>();

    private Doc() {
    }

    /** The checks behind this call are for a sentence of a promise. */
    static void says(int promise, String sentence) {
        says("Promise " + promise, sentence);
    }

    /** The checks behind this call are for a sentence of a section. */
    static void says(String section, String sentence) {
        NAMED.add(section + ": " + sentence);
        Check.about("[" + section + ": " + sentence + "] ");
    }

    static void everySentenceIsNamed() throws IOException {
        Check.about("");
        Set<String> standing = new HashSet<>();
        for (Map.Entry<String, List<String>> section : sections().entrySet()) {
            for (String sentence : section.getValue()) {
                String name = section.getKey() + ": " + sentence;
                standing.add(name);
                Check.isTrue("a test names '" + name + "'", NAMED.contains(name));
            }
        }
        for (String name : NAMED) {
            Check.isTrue("the document says '" + name + "'", standing.contains(name));
        }
    }

    private static Map<String, List<String>> sections() throws IOException {
        Map<String, List<String>> sections = new LinkedHashMap<>();
        List<String> current = new ArrayList<>();
        for (String line : Files.readAllLines(FILE)) {
            if (line.startsWith("#")) {
                current = new ArrayList<>();
                sections.put(line.replaceAll("^#+ ", "").replaceAll(":.*", ""), current);
            } else if (!line.isBlank()) {
                addSentences(current, line);
            }
        }
        // The face is tested by FaceTests; what is free needs no test.
        sections.remove("The public face");
        sections.remove("Not promised");
        return sections;
    }

    private static void addSentences(List<String> sentences, String line) {
        if (line.startsWith("Ahead of the calls") || line.startsWith("Makers of snakes and ladders")) {
            return;
        }
        String text = line.startsWith("- ") ? line.substring(2) : line;
        if (line.startsWith("`")) {
            text = line.substring(line.indexOf("`: ") + 3);
        }
        for (String sentence : text.split("(?<=[.)]) (?=[A-Z(])")) {
            sentences.add(sentence);
        }
    }
}
