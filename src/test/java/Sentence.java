import java.io.IOException;
import java.nio.file.Files;
import java.nio.file.Path;
import java.util.ArrayList;
import java.util.List;

/** A sentence of the document, the tests that fail if it is broken, and faults by which the program breaks it. */
final class Sentence {
    private static final Path ALL = Path.of("src/test/sentences.txt");

    private final StringBuilder words = new StringBuilder();
    final List<String> tests = new ArrayList<>();
    final List<String> faults = new ArrayList<>();
    // Why there is nothing that a test could show, of a heading or an explanation.
    String reason = "";

    private Sentence() {
    }

    static List<Sentence> all() throws IOException {
        List<Sentence> sentences = new ArrayList<>();
        Sentence last = null;
        for (String line : Files.readAllLines(ALL)) {
            if (last == null) {
                last = new Sentence();
                sentences.add(last);
            }
            if (line.isEmpty()) {
                last = null;
            } else {
                last.take(line);
            }
        }
        return sentences;
    }

    private void take(String line) {
        if (line.startsWith("> ")) {
            words.append(line.substring(2)).append(' ');
        } else if (line.startsWith("! ")) {
            faults.add(line.substring(2));
        } else if (line.startsWith("(")) {
            reason = line;
        } else {
            tests.addAll(List.of(line.trim().split(" ")));
        }
    }

    String words() {
        return words.toString().trim();
    }
}
