import java.io.IOException;
import java.lang.reflect.Constructor;
import java.lang.reflect.Field;
import java.lang.reflect.Method;
import java.lang.reflect.Modifier;
import java.nio.file.Files;
import java.nio.file.Path;
import java.util.Set;
import java.util.TreeSet;
import java.util.regex.Matcher;
import java.util.regex.Pattern;

/** The face is that of the document, the source keeps to what can be seen of LANGUAGE.md, each promise has a test. */
final class FaceTest {
    private static final Path DOCUMENT = Path.of("../shared/DOC.md");
    private static final Path SOURCE = Path.of("src/main/java/RuntimeHeap.java");
    private static final Class<?>[] TESTS = {KindsAndFramesTest.class, MakingTest.class, ReferencesTest.class,
        NetsTest.class, CollectingTest.class, AskedTest.class, SurveyTest.class};
    private static final Class<?>[] EDGES = {KindsAndFramesEdgesTest.class, MakingEdgesTest.class,
        FieldsEdgesTest.class, ReferencesEdgesTest.class, NetsEdgesTest.class, CollectingEdgesTest.class,
        MarkingEdgesTest.class, AskedEdgesTest.class, SurveyEdgesTest.class};

    // Of the rules 2, 3, 4, 6 and 13, and of what the machine may throw.
    private static final String[] FORBIDDEN = {"::", "\\bpackage\\b", "\\bsynchronized\\b", "\\bassert\\b",
        "\\bfinally\\b", "\\bhashCode\\b", "\\btoString\\(\\) \\{", "Exact\\(", "\\bThread\\b", "nanoTime",
        "currentTime", "Random", "random", "java\\.(io|nio|net|time)", "catch \\((final )?(Throwable|Exception|Error)",
        "catch \\(.*(ArrayIndex|NullPointer|ClassCast|NegativeArraySize|ArrayStore|StackOverflow|OutOfMemory)"};

    public static void main(String[] args) {
        Check.runAll(FaceTest.class);
    }

    static void runFaceIsThatOfTheDocument() throws IOException {
        String document = Files.readString(DOCUMENT);
        String block = document.substring(document.indexOf("```java"), document.indexOf("```\n\n## Terms"));
        Set<String> due = new TreeSet<>();
        Matcher lines = Pattern.compile("public (.*\\)(?: throws .*)?);").matcher(block);
        while (lines.find()) {
            due.add(lines.group(1).replaceAll("(int|boolean) \\w+(?=[,)])", "$1"));
        }
        Set<String> got = new TreeSet<>();
        for (Constructor<?> constructor : RuntimeHeap.class.getDeclaredConstructors()) {
            got.add(seen(constructor.toString()));
        }
        for (Method method : RuntimeHeap.class.getDeclaredMethods()) {
            if (!Modifier.isPrivate(method.getModifiers())) {
                got.add(seen(method.toString().replace("RuntimeHeap.", "")));
            }
        }
        Check.same("methods of the document", due.size(), 84);
        if (!due.equals(got)) {
            Check.tell("the face is " + got + ", due is " + due);
        }
    }

    private static String seen(String member) {
        return member.replaceFirst("^public ", "").replace("java.lang.", "").replaceAll(",(?! )", ", ");
    }

    static void runNoOtherMemberIsSeen() {
        Check.yes("final", Modifier.isFinal(RuntimeHeap.class.getModifiers()));
        Set<String> face = new TreeSet<>();
        for (Method method : RuntimeHeap.class.getDeclaredMethods()) {
            if (Modifier.isPublic(method.getModifiers())) {
                face.add(method.getName());
            }
        }
        for (Field field : RuntimeHeap.class.getDeclaredFields()) {
            Check.yes(field + " is private", Modifier.isPrivate(field.getModifiers()));
        }
        Class<?>[] inside = RuntimeHeap.class.getDeclaredClasses();
        Check.yes("some twelve classes in all", inside.length < 14);
        haveOtherNames(RuntimeHeap.class, face);
        haveSomeTwentyFields(RuntimeHeap.class);
        for (Class<?> one : inside) {
            Check.no(one + " is public", Modifier.isPublic(one.getModifiers()));
            Check.no(one + " is protected", Modifier.isProtected(one.getModifiers()));
            haveSomeTwentyFields(one);
            haveOtherNames(one, face);
        }
    }

    private static void haveSomeTwentyFields(Class<?> one) {
        int fields = 0;
        for (Field field : one.getDeclaredFields()) {
            fields += Modifier.isStatic(field.getModifiers()) ? 0 : 1;
        }
        Check.yes(one + " has some twenty fields", fields <= 22);
    }

    private static void haveOtherNames(Class<?> one, Set<String> face) {
        for (Method method : one.getDeclaredMethods()) {
            Check.yes(method + " takes at most seven parameters", method.getParameterCount() <= 7);
            if (Modifier.isPrivate(method.getModifiers())) {
                Check.no(method + " bears the name of a public one", face.contains(method.getName()));
            }
        }
    }

    static void runSourceKeepsToTheLanguage() throws IOException {
        String source = Files.readString(SOURCE);
        String code = source.replaceAll("(?s)/\\*.*?\\*/|//[^\n]*|\"[^\"\n]*\"", " ");
        for (String word : FORBIDDEN) {
            Check.no("the source has " + word, Pattern.compile(word).matcher(code).find());
        }
        int begin = 0;
        int number = 0;
        for (String line : source.split("\n")) {
            number++;
            if (line.matches(" {4}( {4})?\\S.*\\) (throws .*)?\\{")) {
                begin = number;
            }
            if (line.matches(" {4}( {4})?}")) {
                Check.yes("the method at line " + begin + " has some sixty lines", number - begin <= 65);
            }
        }
    }

    static void runEachPromiseHasATest() {
        haveTestsOfEachPromise("a test", TESTS);
        haveTestsOfEachPromise("a test of its boundary cases", EDGES);
    }

    private static void haveTestsOfEachPromise(String what, Class<?>[] classes) {
        Set<Integer> tested = new TreeSet<>();
        for (Class<?> tests : classes) {
            for (Method method : tests.getDeclaredMethods()) {
                Matcher name = Pattern.compile("promise(\\d+)[A-Z].*").matcher(method.getName());
                if (name.matches()) {
                    tested.add(Integer.parseInt(name.group(1)));
                }
            }
        }
        for (int promise = 1; promise <= 84; promise++) {
            Check.yes("promise " + promise + " has " + what, tested.contains(promise));
        }
    }
}
