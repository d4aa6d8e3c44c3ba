import java.io.IOException;
import java.util.HashSet;
import java.util.List;
import java.util.Set;

/** Every sentence of the document: that it has a test in src/test/boundaries, and that the test passes. */
public final class BoundariesTest {
    public static void main(String[] args) throws IOException {
        List<Case> cases = Case.readAll();
        List<String> sentences = Document.sentences();
        Set<String> tested = new HashSet<>();
        for (Case one : cases) {
            tested.add(one.place + ": " + one.sentence);
            if (!one.isNone()) {
                Script.check(one.title(), one.rows);
            }
        }
        for (String sentence : sentences) {
            if (!tested.contains(sentence)) {
                Script.say("no test for " + sentence);
            }
        }
        tested.removeAll(sentences);
        for (String sentence : tested) {
            Script.say("no such sentence in the document: " + sentence);
        }
        System.out.println(sentences.size() + " sentences, " + cases.size() + " tests");
        Script.end();
    }
}
