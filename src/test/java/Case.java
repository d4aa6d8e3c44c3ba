import java.io.IOException;
import java.nio.file.DirectoryStream;
import java.nio.file.Files;
import java.nio.file.Path;
import java.util.ArrayList;
import java.util.Collections;
import java.util.List;

/**
 * The tests of single sentences, read from the texts in src/test/boundaries. There "== " goes before a heading of the
 * document, "-- " before one of its sentences, and the rows for a Script follow; a sentence that can't be broken has
 * "(none)" and a reason in their place. A sentence may have several tests.
 */
final class Case {
    static final Path FOLDER = Path.of("src", "test", "boundaries");
    static final String NONE = "(none)";

    final String place;
    final String sentence;
    final String rows;

    private Case(String place, String sentence, String rows) {
        this.place = place;
        this.sentence = sentence;
        this.rows = rows;
    }

    boolean isNone() {
        return rows.startsWith(NONE);
    }

    String title() {
        return place + ", \"" + sentence + "\"";
    }

    static List<Case> readAll() throws IOException {
        List<Path> files = new ArrayList<>();
        try (DirectoryStream<Path> stream = Files.newDirectoryStream(FOLDER, "*.txt")) {
            stream.forEach(files::add);
        }
        Collections.sort(files);
        List<Case> all = new ArrayList<>();
        for (Path file : files) {
            read(Files.readAllLines(file), all);
        }
        return all;
    }

    private static void read(List<String> lines, List<Case> all) {
        String place = "";
        String sentence = "";
        StringBuilder rows = new StringBuilder();
        for (String line : lines) {
            if (line.startsWith("== ") || line.startsWith("-- ")) {
                addCase(place, sentence, rows, all);
                place = line.startsWith("== ") ? line.substring(3) : place;
                sentence = line.startsWith("-- ") ? line.substring(3) : "";
            } else {
                rows.append(line).append('\n');
            }
        }
        addCase(place, sentence, rows, all);
    }

    private static void addCase(String place, String sentence, StringBuilder rows, List<Case> all) {
        if (!sentence.isEmpty()) {
            all.add(new Case(place, sentence, rows.toString()));
        }
        rows.setLength(0);
    }
}
