import java.io.File;
import java.io.IOException;
import java.io.OutputStream;
import java.io.PrintStream;
import java.lang.reflect.Method;
import java.net.URL;
import java.net.URLClassLoader;
import java.nio.file.Files;
import java.nio.file.Path;
import java.util.ArrayList;
import java.util.List;
import java.util.concurrent.ExecutorService;
import java.util.concurrent.Executors;
import java.util.concurrent.Future;
import javax.tools.JavaCompiler;
import javax.tools.ToolProvider;

/**
 * Breaks the program by each fault of src/test/sentences.txt, and looks whether a test of that sentence fails. A fault
 * is told by the text of RuntimeHeap.java, so this is no test that CI runs, but one for who changes tests or program.
 */
final class Faults {
    private static final Path SOURCE = Path.of("src/main/java/RuntimeHeap.java");
    private static final List<String> SLOW = List.of("ModelTest", "ReadmeTest", "SentencesTest", "FaceTest");
    private static final int SECONDS = 20;
    private static final PrintStream OUT = System.out;

    private final Path classes;
    private final Path broken;
    private final String source;
    private final boolean isAllAsked = Boolean.getBoolean("all");

    private Faults() throws Exception {
        classes = Path.of(RuntimeHeap.class.getProtectionDomain().getCodeSource().getLocation().toURI());
        broken = Files.createTempDirectory("faults");
        source = Files.readString(SOURCE);
    }

    public static void main(String[] args) throws Exception {
        System.setOut(new PrintStream(OutputStream.nullOutputStream()));
        Faults faults = new Faults();
        ExecutorService workers = Executors.newFixedThreadPool(Runtime.getRuntime().availableProcessors());
        List<Future<String>> answers = new ArrayList<>();
        for (Sentence sentence : Sentence.all()) {
            for (String fault : sentence.faults) {
                Path folder = Files.createDirectories(faults.broken.resolve("" + answers.size()));
                answers.add(workers.submit(() -> {
                    String answer = faults.tell(sentence, fault, folder);
                    clear(folder);
                    return answer;
                }));
            }
        }
        int missed = 0;
        for (Future<String> answer : answers) {
            if (!answer.get().isEmpty()) {
                OUT.println(answer.get());
                missed += answer.get().startsWith("N") ? 1 : 0;
            }
        }
        OUT.println(answers.size() + " faults, " + missed + " not noticed");
        System.exit(missed == 0 ? 0 : 1);
    }

    private static void clear(Path folder) throws IOException {
        for (File file : folder.toFile().listFiles()) {
            Files.delete(file.toPath());
        }
        Files.delete(folder);
    }

    /** Nothing, if a test of the sentence notices the fault. */
    private String tell(Sentence sentence, String fault, Path folder) throws Exception {
        String text = withFault(fault);
        if (text.equals(source) || !compiles(text, folder)) {
            return "NO SUCH PROGRAM: " + fault;
        }
        List<String> failing = failing(folder, sentence.tests);
        if (isAllAsked) {
            return "FAULT " + fault + "\t" + String.join(" ", failing);
        }
        return failing.isEmpty() ? "NOT NOTICED: " + sentence.words() + "\n    " + fault : "";
    }

    /** The program with a fault: "old >>> new", with "Class| ", "method| " or "Class.method| " ahead for the place. */
    private String withFault(String fault) {
        int bar = fault.indexOf("| ");
        boolean isAnywhere = bar < 0 || bar > fault.indexOf(" ");
        int[] place = isAnywhere ? new int[] {0, source.length()} : place(fault.substring(0, bar));
        String[] sides = fault.substring(isAnywhere ? 0 : bar + 2).split(" >>> ?", 2);
        int at = source.indexOf(sides[0], place[0]);
        if (at < 0 || at > place[1]) {
            return source;
        }
        return source.substring(0, at) + sides[1] + source.substring(at + sides[0].length());
    }

    /** Where a class or a method begins and ends. */
    private int[] place(String name) {
        int dot = name.indexOf('.');
        boolean isInside = dot > 0 || Character.isUpperCase(name.charAt(0));
        int begin = isInside ? source.indexOf(" class " + name.substring(0, dot > 0 ? dot : name.length()) + " {") : 0;
        if (dot > 0 || !isInside) {
            String method = name.substring(dot + 1);
            do {
                begin = source.indexOf(" " + method + "(", begin + 1);
            } while (begin > 0 && !isHead(lineAt(begin)));
        }
        if (begin < 0) {
            return new int[] {0, -1};
        }
        String line = lineAt(begin);
        String indent = line.substring(0, line.length() - line.stripLeading().length());
        return new int[] {begin, source.indexOf("\n" + indent + "}\n", begin)};
    }

    private String lineAt(int at) {
        return source.substring(source.lastIndexOf('\n', at) + 1, source.indexOf('\n', at));
    }

    private static boolean isHead(String line) {
        return line.matches(" {4}( {4})?\\w.*") && !line.endsWith(";") && !line.matches(" *(if|for|return) .*");
    }

    private static boolean compiles(String text, Path folder) throws IOException {
        Path file = folder.resolve("RuntimeHeap.java");
        Files.writeString(file, text);
        JavaCompiler compiler = ToolProvider.getSystemJavaCompiler();
        return compiler.run(null, OutputStream.nullOutputStream(), OutputStream.nullOutputStream(),
                "-nowarn", "-d", folder.toString(), file.toString()) == 0;
    }

    /** The tests that fail; one that never ends is one of them, and the last one. */
    @SuppressWarnings("deprecation")
    private List<String> failing(Path folder, List<String> wanted) throws Exception {
        Trial trial = new Trial(folder, wanted);
        Thread thread = new Thread(trial);
        thread.start();
        thread.join(SECONDS * 1000L);
        trial.isOver = true;
        while (thread.isAlive()) {
            // There is no other way to end a loop that has no end; the test of the loop fails by it.
            thread.stop();
            thread.join(1000);
        }
        return trial.failing;
    }

    /** Runs tests on the program of a folder. */
    private final class Trial implements Runnable {
        private final Path folder;
        private final List<String> wanted;
        private final List<String> failing = new ArrayList<>();
        private volatile boolean isOver;

        Trial(Path folder, List<String> wanted) {
            this.folder = folder;
            this.wanted = wanted;
        }

        @Override
        public void run() {
            try {
                URL[] places = {folder.toUri().toURL(), classes.toUri().toURL()};
                URLClassLoader loader = new URLClassLoader(places, ClassLoader.getPlatformClassLoader());
                Method passes = loader.loadClass("Check").getDeclaredMethod("passes", Method.class);
                passes.setAccessible(true);
                for (File file : new File("src/test/java").listFiles()) {
                    String name = file.getName().replace(".java", "");
                    if (name.endsWith("Test") && !SLOW.contains(name)) {
                        runAll(loader.loadClass(name), passes);
                    }
                }
            } catch (ReflectiveOperationException | IOException e) {
                throw new IllegalStateException(e);
            }
        }

        private void runAll(Class<?> tests, Method passes) throws ReflectiveOperationException {
            for (Method test : tests.getDeclaredMethods()) {
                boolean isTest = test.getName().matches("(promise|terms|run)[A-Z0-9].*");
                boolean isAsked = isAllAsked || wanted.contains(test.getName());
                if (isTest && test.getParameterCount() == 0 && isAsked && !isOver
                        && !(Boolean) passes.invoke(null, test)) {
                    failing.add(test.getName());
                }
            }
        }
    }
}
