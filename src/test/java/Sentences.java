import java.io.IOException;
import java.nio.file.Files;
import java.nio.file.Path;
import java.util.LinkedHashMap;
import java.util.Map;
import java.util.function.Consumer;

/**
 * Sets each test beside the words of the document that it shows. Words that the document does not have are
 * an error, and so are words of its promises that no test has been set beside.
 */
final class Sentences {
    private final Due due = new Due();
    private final Map<String, String> sections = new LinkedHashMap<>();
    private final Map<String, boolean[]> shown = new LinkedHashMap<>();
    private String section = "";
    private int tests = 0;

    Sentences(Path document) throws IOException {
        String heading = "";
        for (String line : Files.readAllLines(document)) {
            if (line.startsWith("## ")) {
                heading = line.substring(3);
            } else if (!line.startsWith("```") && !line.startsWith("# ")) {
                sections.merge(heading, line, (text, more) -> text + " " + more);
            }
        }
        sections.replaceAll((name, text) -> text.replaceAll("\\s+", " "));
        sections.forEach((name, text) -> shown.put(name, new boolean[text.length()]));
    }

    void section(String heading) {
        due.promise("the document");
        due.yes("a section \"" + heading + "\"", sections.containsKey(heading));
        section = heading;
    }

    void test(String words, Consumer<Trial> test) {
        due.promise(section + ": \"" + words + "\"");
        String text = sections.getOrDefault(section, "");
        int start = text.indexOf(words);
        due.yes("the document has these words", start >= 0);
        for (int i = 0; start >= 0 && i < words.length(); i++) {
            shown.get(section)[start + i] = true;
        }
        int before = due.comparedSoFar();
        test.accept(new Trial(due));
        due.yes("the test compares something", due.comparedSoFar() > before);
        tests++;
    }

    void end() {
        due.promise("words that no test is set beside");
        for (String heading : sections.keySet()) {
            // Its lines are not sentences; FaceTest compares them with the class.
            if (!heading.equals("The public face")) {
                due.same(heading, notShown(heading), "");
            }
        }
        System.out.println(tests + " sentences");
        due.end();
    }

    /** The methods' own lines, between backticks, are FaceTest's. */
    private String notShown(String heading) {
        StringBuilder left = new StringBuilder();
        String text = sections.get(heading);
        for (int i = 0; i < text.length(); i++) {
            left.append(shown.get(heading)[i] ? '|' : text.charAt(i));
        }
        return left.toString().replaceAll("`[^`]*`:", "").replaceAll("[| ]+", " ").trim();
    }
}
