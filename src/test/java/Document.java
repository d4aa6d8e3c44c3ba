import java.io.IOException;
import java.nio.file.Files;
import java.nio.file.Path;
import java.util.ArrayList;
import java.util.List;
import java.util.Set;
import java.util.TreeSet;

/**
 * What ../shared/DOC.md says: its sentences, each as "heading: sentence", where a row of a list counts as a sentence,
 * and its public face.
 */
final class Document {
    private static final Path FILE = Path.of("..", "shared", "DOC.md");

    private final List<String> sentences = new ArrayList<>();
    private final StringBuilder paragraph = new StringBuilder();
    private String place = "";

    private Document() {
    }

    static List<String> sentences() throws IOException {
        Document document = new Document();
        boolean code = false;
        for (String line : Files.readAllLines(FILE)) {
            boolean fence = line.startsWith("```");
            code ^= fence;
            if (!code && !fence) {
                document.readLine(line);
            }
        }
        document.endParagraph();
        return document.sentences;
    }

    /** Returns the rows of the face without "public" and the names of parameters: "int pool(int, int) throws ..". */
    static Set<String> face() throws IOException {
        Set<String> face = new TreeSet<>();
        for (String line : Files.readAllLines(FILE)) {
            String row = line.strip();
            if (row.startsWith("public ") && row.endsWith(";")) {
                face.add(row.substring(0, row.length() - 1).replaceFirst("public ", "")
                    .replaceAll("(int|boolean) \\w+([,)])", "$1$2"));
            }
        }
        return face;
    }

    private void readLine(String line) {
        boolean signature = line.startsWith("`") && line.endsWith("`");
        if (line.startsWith("#") || line.startsWith("- ") || line.isBlank() || signature) {
            endParagraph();
        }
        if (line.startsWith("#")) {
            // "## Promise 1: A new object" is called "Promise 1".
            place = line.replaceFirst("#+ ", "").replaceFirst(":.*", "");
        } else if (line.startsWith("- ")) {
            sentences.add(place + ": " + line.substring(2));
        } else if (!line.isBlank() && !signature) {
            paragraph.append(paragraph.length() == 0 ? "" : " ").append(line.strip());
        }
    }

    private void endParagraph() {
        for (String sentence : paragraph.toString().split("(?<=\\.) (?=[A-Z])")) {
            if (!sentence.isEmpty()) {
                sentences.add(place + ": " + sentence);
            }
        }
        paragraph.setLength(0);
    }
}
