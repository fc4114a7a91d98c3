import java.io.IOException;
import java.io.UncheckedIOException;
import java.nio.file.Files;
import java.nio.file.Path;
import java.util.ArrayList;
import java.util.LinkedHashMap;
import java.util.List;
import java.util.Map;

/** The sentences of the document, and which of them a test told that it is of. */
final class Document {
    private static final Path PLACE = Path.of("..", "shared", "DOC.md");

    private final Map<String, List<String>> sections;
    private final Map<String, List<String>> untold;

    Document() {
        sections = new LinkedHashMap<>();
        untold = new LinkedHashMap<>();
        String section = "";
        boolean isCode = false;
        for (String line : lines()) {
            if (line.startsWith("```")) {
                isCode = !isCode;
            } else if (line.startsWith("#")) {
                section = line.substring(line.indexOf(' ') + 1);
            } else if (!isCode && !line.isBlank()) {
                addSentences(section, line);
            }
        }
    }

    private static List<String> lines() {
        try {
            return Files.readAllLines(PLACE);
        } catch (IOException missing) {
            throw new UncheckedIOException(missing);
        }
    }

    private void addSentences(String section, String line) {
        String text = line.startsWith("- ") ? line.substring(2) : line;
        if (text.contains(")`: ") || text.contains("Exception`: ")) {
            // the signature ahead of it is FaceTest's
            text = text.substring(text.indexOf("`: ") + 3);
        }
        for (String sentence : text.split("(?<=\\.) ")) {
            sections.computeIfAbsent(section, name -> new ArrayList<>()).add(sentence);
            untold.computeIfAbsent(section, name -> new ArrayList<>()).add(sentence);
        }
    }

    /** Notes that a test is of the sentence that has these words; there must be one such in the section. */
    String tell(String section, String words) {
        List<String> found = new ArrayList<>();
        for (Map.Entry<String, List<String>> each : sections.entrySet()) {
            if (each.getKey().equals(section) || each.getKey().startsWith(section + ":")) {
                for (String sentence : each.getValue()) {
                    if (sentence.contains(words)) {
                        found.add(sentence);
                        untold.get(each.getKey()).remove(sentence);
                    }
                }
            }
        }
        if (found.size() != 1) {
            throw new IllegalArgumentException(section + " has " + found.size() + " sentences with: " + words);
        }
        return found.get(0);
    }

    List<String> untoldSentences() {
        List<String> all = new ArrayList<>();
        for (Map.Entry<String, List<String>> each : untold.entrySet()) {
            for (String sentence : each.getValue()) {
                all.add(each.getKey() + " | " + sentence);
            }
        }
        return all;
    }
}
