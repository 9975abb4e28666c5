import java.io.File;
import java.io.IOException;
import java.lang.reflect.Method;
import java.nio.file.Files;
import java.nio.file.Path;
import java.util.HashSet;
import java.util.List;
import java.util.Set;

/** Each sentence of the document stands in src/test/sentences.txt, with its tests, and these are there. */
final class SentencesTest {
    private static final Path DOCUMENT = Path.of("../shared/DOC.md");

    public static void main(String[] args) {
        Check.runAll(SentencesTest.class);
    }

    static void runEachSentenceOfTheDocumentIsThere() throws IOException {
        // FaceTest compares the face, which is written in Java, by itself.
        String document = Files.readString(DOCUMENT).replaceAll("(?s)```java\n.*?\n```\n", "").replace("```text", "")
                .replace("```", "");
        String[] due = document.trim().split("\\s+");
        StringBuilder all = new StringBuilder();
        for (Sentence sentence : Sentence.all()) {
            all.append(sentence.words()).append(' ');
        }
        String[] got = all.toString().trim().split("\\s+");
        for (int i = 0; i < due.length && i < got.length; i++) {
            if (!due[i].equals(got[i])) {
                String around = String.join(" ", List.of(due).subList(Math.max(0, i - 8), i + 1));
                Check.tell("the document says \"" + around + "\", where sentences.txt says \"" + got[i] + "\"");
                return;
            }
        }
        Check.same("words of the document in sentences.txt", got.length, due.length);
    }

    static void runEachSentenceHasATestThatIsThere() throws Exception {
        Set<String> tests = new HashSet<>();
        for (File file : new File("src/test/java").listFiles()) {
            if (file.getName().endsWith("Test.java")) {
                for (Method method : Class.forName(file.getName().replace(".java", "")).getDeclaredMethods()) {
                    tests.add(method.getName());
                }
            }
        }
        for (Sentence sentence : Sentence.all()) {
            Check.yes("\"" + sentence.words() + "\" has tests, or a reason why not",
                    sentence.tests.isEmpty() != sentence.reason.isEmpty());
            for (String test : sentence.tests) {
                Check.yes("the test " + test + " is there", tests.contains(test));
            }
        }
    }
}
