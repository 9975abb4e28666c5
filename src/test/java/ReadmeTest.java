import java.io.IOException;
import java.lang.reflect.Method;
import java.lang.reflect.Modifier;
import java.nio.file.Files;
import java.nio.file.Path;
import java.util.ArrayList;
import java.util.List;
import java.util.Set;
import java.util.TreeSet;
import java.util.regex.Matcher;
import java.util.regex.Pattern;
import java.util.stream.Stream;

/** What README.md says is so: its commands work on a clean checkout, its example prints that, its tables are whole. */
final class ReadmeTest {
    private static final Path README = Path.of("README.md");

    public static void main(String[] args) {
        Check.runAll(ReadmeTest.class);
    }

    static void runTheExampleIsTheOneThatIsCompiled() throws IOException {
        Check.yes("the example is example/Tour.java",
                blocks("java").equals(List.of(Files.readString(Path.of("example/Tour.java")))));
    }

    static void runTheExamplePrintsThat() throws Exception {
        Path checkout = checkout();
        String printed = printed(checkout, blocks("sh").get(0));
        if (!blocks("text").equals(List.of(printed))) {
            Check.tell("the example prints\n" + printed);
        }
    }

    static void runEachCommandWorks() throws Exception {
        Path checkout = checkout();
        for (String commands : blocks("sh")) {
            // .ci/run is what runs this; the long runs are left to who wants to wait for them.
            if (!commands.startsWith(".ci/run")) {
                printed(checkout, commands.replaceAll("-Druns=\\d+", "-Druns=5"));
            } else {
                Check.yes(".ci/run can be run", Files.isExecutable(checkout.resolve(".ci/run")));
            }
        }
    }

    static void runEachCallIsTold() throws IOException {
        Set<String> told = new TreeSet<>();
        Matcher call = Pattern.compile("`(\\w+)\\((.*?)\\)`").matcher(String.join("\n", rows("| what for | calls |")));
        while (call.find()) {
            told.add(call.group(1) + " " + (call.group(2).isEmpty() ? 0 : call.group(2).split(", ").length));
        }
        Set<String> due = new TreeSet<>();
        for (Method method : calls()) {
            due.add(method.getName() + " " + method.getParameterCount());
        }
        if (!told.equals(due)) {
            Check.tell("README.md tells of " + told + ", due is " + due);
        }
    }

    static void runEachExceptionIsToldWithItsCalls() throws IOException {
        for (Class<?> exception : List.of(IndexOutOfBoundsException.class, IllegalArgumentException.class,
                IllegalStateException.class)) {
            Set<String> due = new TreeSet<>();
            for (Method method : calls()) {
                if (List.of(method.getExceptionTypes()).contains(exception)) {
                    due.add(method.getName());
                }
            }
            for (String row : rows("| exception | thrown if | by |")) {
                String[] cells = row.split("\\|");
                if (cells[1].contains(exception.getSimpleName()) && !names(List.of(cells[3])).equals(due)) {
                    Check.tell(exception + " is told of" + cells[3] + ", due is " + due);
                }
            }
        }
        Check.same("exceptions that are told", rows("| exception | thrown if | by |").size(), 3);
    }

    private static List<Method> calls() {
        List<Method> calls = new ArrayList<>();
        for (Method method : RuntimeHeap.class.getDeclaredMethods()) {
            if (Modifier.isPublic(method.getModifiers())) {
                calls.add(method);
            }
        }
        return calls;
    }

    private static List<String> blocks(String language) throws IOException {
        List<String> blocks = new ArrayList<>();
        Matcher block = Pattern.compile("(?s)```" + language + "\n(.*?)```").matcher(Files.readString(README));
        while (block.find()) {
            blocks.add(block.group(1));
        }
        return blocks;
    }

    /** The rows of a table behind its head and the line under it. */
    private static List<String> rows(String head) throws IOException {
        List<String> rows = new ArrayList<>();
        List<String> lines = Files.readAllLines(README);
        for (int i = lines.indexOf(head) + 2; lines.contains(head) && lines.get(i).startsWith("|"); i++) {
            rows.add(lines.get(i));
        }
        return rows;
    }

    private static Set<String> names(List<String> texts) {
        Set<String> names = new TreeSet<>();
        Matcher name = Pattern.compile("`(\\w+)`").matcher(String.join("\n", texts));
        while (name.find()) {
            names.add(name.group(1));
        }
        return names;
    }

    /** A folder with what a clean checkout has, and ../shared beside it. */
    private static Path checkout() throws IOException {
        Path place = Files.createTempDirectory("readme");
        Path checkout = place.resolve("main");
        for (String part : List.of("src", "example", ".ci", "README.md")) {
            copy(Path.of(part), checkout);
        }
        Files.createSymbolicLink(place.resolve("shared"), Path.of("../shared").toRealPath());
        return checkout;
    }

    private static void copy(Path part, Path into) throws IOException {
        try (Stream<Path> files = Files.walk(part)) {
            for (Path file : (Iterable<Path>) files::iterator) {
                Path copy = into.resolve(file.toString());
                Files.createDirectories(copy.getParent());
                Files.copy(file, copy, java.nio.file.StandardCopyOption.COPY_ATTRIBUTES);
            }
        }
    }

    private static String printed(Path folder, String commands) throws Exception {
        ProcessBuilder builder = new ProcessBuilder("bash", "-e", "-c", commands);
        Process process = builder.directory(folder.toFile()).redirectErrorStream(true).start();
        String printed = new String(process.getInputStream().readAllBytes());
        if (process.waitFor() != 0) {
            Check.tell("this does not work:\n" + commands + printed);
        }
        return printed;
    }
}
