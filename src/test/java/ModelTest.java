import java.lang.reflect.InvocationTargetException;
import java.lang.reflect.Method;
import java.util.ArrayList;
import java.util.List;

/** Long runs of calls, the same ones on the program and on the Model: each answer and each digest has to agree. */
final class ModelTest {
    private static final int CALLS = 512;
    private static final int SAME_SHAPE = 79;

    // A method, how often it is called, and of what its arguments are taken (see argument).
    private static final String[][] METHODS = {
        {"defineKind", "2", "Prr?"}, {"push", "3", "w"}, {"pop", "3", "s"}, {"assign", "6", "ss"},
        {"clear", "10", "s"}, {"toGlobal", "4", "gs"}, {"fromGlobal", "4", "sg"},
        {"newObject", "24", "sk"}, {"newRow", "14", "sl"}, {"newText", "12", "st"}, {"newWeak", "8", "sO?"},
        {"newSoft", "8", "sO?"}, {"newPhantom", "6", "sO"}, {"newTable", "6", "sc"},
        {"load", "12", "sHp"}, {"store", "30", "Hps"}, {"getNumber", "3", "Af"}, {"setNumber", "6", "Afv"},
        {"getByte", "3", "Tf"}, {"setByte", "8", "Tfb"},
        {"read", "10", "sR"}, {"refersTo", "4", "Rs"}, {"forget", "1", "R"}, {"poll", "3", "s"},
        {"takeLast", "3", "s"}, {"put", "14", "MOs"}, {"get", "8", "sMO"}, {"remove", "2", "MO"},
        {"intern", "8", "sT"}, {"deepCopy", "6", "sN"}, {"writeImage", "5", "N"}, {"setImage", "4", "iv"},
        {"readImage", "5", "s"}, {"setTenure", "2", "a"}, {"collectYoung", "4", ""}, {"collectAll", "4", "?"},
        {"beginMarking", "5", ""}, {"step", "6", "x"},
        {"frames", "1", ""}, {"slots", "1", ""}, {"kinds", "1", ""}, {"referencesOf", "1", "k"},
        {"numbersOf", "1", "k"}, {"isFinal", "1", "k"}, {"isKindOf", "1", "kk"}, {"numberOf", "1", "s"},
        {"globalNumber", "1", "g"}, {"formOf", "1", "s"}, {"kindOf", "1", "s"}, {"lengthOf", "1", "s"},
        {"wordsOf", "1", "s"}, {"ageOf", "1", "s"}, {"isOld", "1", "s"}, {"isFinalized", "1", "s"},
        {"isInterned", "1", "s"}, {"isCleared", "1", "R"}, {"entriesOf", "1", "M"}, {"objects", "1", ""},
        {"youngObjects", "1", ""}, {"youngWords", "1", ""}, {"oldWords", "1", ""}, {"made", "1", ""},
        {"queued", "1", ""}, {"lasts", "1", ""}, {"interned", "1", ""}, {"youngCollections", "1", ""},
        {"fullCollections", "1", ""}, {"isMarking", "1", ""}, {"tenure", "1", ""}, {"imageLength", "1", ""},
        {"imageAt", "2", "i"}, {"isPresent", "2", "n"}, {"isReached", "3", "n"}, {"distance", "3", "n"},
        {"wouldRemove", "3", "?"}, {"retained", "4", "O"}, {"heaviest", "2", ""}, {"onCircle", "4", "H"},
        {"referrers", "4", "O"}, {"sameShape", "6", "NN"}, {"flaws", "2", ""}, {"meanWords", "1", ""},
        {"digest", "2", ""}};

    // Slots by what they hold: anything, PLAIN, PLAIN or ROW, of a NET, TEXT, a reference, a TABLE.
    private static final String FORMS = "OAHNTRM";
    private static final int[] LEAST_FORM = {0, 0, 0, 0, 2, 3, 6};
    private static final int[] MOST_FORM = {6, 0, 1, 2, 2, 5, 6};

    private static final String IMAGES = " clear newObject newRow newText load store setNumber setByte intern deepCopy "
            + "writeImage setImage readImage sameShape defineKind ";
    private static final String MARKING = " clear newObject newRow newText newWeak newSoft newTable load store "
            + "setByte read put get remove intern deepCopy writeImage readImage beginMarking step ";

    // The least and the most of some arguments, and one beyond.
    private static final String EDGES = "rwltcbvax";
    private static final int[][] AT_EDGES = {{-1, 0, 4, 5}, {0, 1, 8, 9}, {0, 30, 31, 40, 41}, {0, 119, 120, 121},
        {0, 1, 16, 17}, {-1, 0, 127, 128, 255, 256}, {-1, 12, 40, 41, 120, 121, 255, 256, Integer.MIN_VALUE},
        {0, 1, 4, 5}, {0, 1, 50, 51}};

    private final Method[] onProgram = new Method[METHODS.length];
    private final Method[] onModel = new Method[METHODS.length];
    private final int[] weights = new int[METHODS.length];
    private RuntimeHeap heap;
    private Model model;
    private long seed;
    // Per run: how long rows and texts are at most, so that small and large objects both come to be many.
    private int longest;
    private int lastSlot;

    private ModelTest() {
        for (int i = 0; i < METHODS.length; i++) {
            onProgram[i] = find(RuntimeHeap.class, METHODS[i][0]);
            onModel[i] = find(Model.class, METHODS[i][0]);
        }
    }

    public static void main(String[] args) {
        Check.runAll(ModelTest.class);
    }

    static void runWholeFaceIsCalled() {
        int publicOnes = 0;
        for (Method method : RuntimeHeap.class.getDeclaredMethods()) {
            publicOnes += java.lang.reflect.Modifier.isPublic(method.getModifiers()) ? 1 : 0;
        }
        Check.same("public methods", publicOnes, METHODS.length);
    }

    static void runAgainstModel() {
        int runs = Integer.getInteger("runs", 1500);
        ModelTest test = new ModelTest();
        for (int run = 0; run < runs; run++) {
            if (!test.agree(run)) {
                return;
            }
        }
    }

    private static Method find(Class<?> owner, String name) {
        for (Method method : owner.getDeclaredMethods()) {
            if (method.getName().equals(name) && java.lang.reflect.Modifier.isPublic(method.getModifiers())) {
                return method;
            }
        }
        throw new IllegalStateException(owner + " has no " + name);
    }

    private boolean agree(int run) {
        heap = new RuntimeHeap();
        model = new Model();
        seed = run * 7919L + 12345;
        // Other methods are left out or called much more often in each run: so the corners are reached as well.
        for (int i = 0; i < METHODS.length; i++) {
            weights[i] = Integer.parseInt(METHODS[i][1]) * new int[] {0, 1, 1, 1, 5}[next(5)];
        }
        longest = new int[] {1, 3, 12, 41}[next(4)];
        if (run % 3 == 0) {
            // Little room is asked for and nothing collected, so that marking stays on while much is read and dropped.
            dwellOn(MARKING, 3);
        } else if (run % 8 == 1) {
            dwellOn(IMAGES, new int[] {3, 41}[next(2)]);
        }
        List<String> calls = new ArrayList<>();
        int copied = -1;
        for (int call = 0; call < CALLS; call++) {
            int method = call < 6 ? next(2) * 7 : choose();
            Object[] arguments = arguments(METHODS[method][2]);
            if (copied >= 0) {
                // Two nets that are alike would seldom be asked for by chance.
                method = SAME_SHAPE;
                arguments = new Object[] {copied, lastSlot};
                copied = -1;
            } else if (METHODS[method][0].equals("deepCopy")) {
                copied = (Integer) arguments[0];
            }
            String got = answer(onProgram[method], heap, arguments);
            String due = answer(onModel[method], model, arguments);
            calls.add(METHODS[method][0] + java.util.Arrays.toString(arguments) + " " + got);
            boolean isDigestDue = call % 8 == 7 || call == CALLS - 1;
            if (!got.equals(due) || isDigestDue && heap.digest() != model.digest()) {
                Check.tell("run " + run + ", call " + call + ": " + got + ", due is " + due
                        + " (or the digest behind it is another)\n    " + String.join("\n    ", calls));
                return false;
            }
        }
        return true;
    }

    private void dwellOn(String methods, int most) {
        for (int i = 0; i < METHODS.length; i++) {
            weights[i] = methods.contains(" " + METHODS[i][0] + " ") ? Integer.parseInt(METHODS[i][1]) : 0;
        }
        longest = most;
    }

    private static String answer(Method method, Object target, Object[] arguments) {
        try {
            return String.valueOf(method.invoke(target, arguments));
        } catch (InvocationTargetException e) {
            return e.getCause().getClass().getName();
        } catch (IllegalAccessException e) {
            throw new IllegalStateException(e);
        }
    }

    private int choose() {
        int sum = 0;
        for (int weight : weights) {
            sum += weight;
        }
        int rest = next(sum);
        int method = 0;
        while (rest >= weights[method]) {
            rest -= weights[method];
            method++;
        }
        return method;
    }

    private Object[] arguments(String of) {
        Object[] arguments = new Object[of.length()];
        for (int i = 0; i < arguments.length; i++) {
            arguments[i] = of.charAt(i) == '?' ? (Object) (next(2) == 0) : (Object) argument(of.charAt(i));
        }
        return arguments;
    }

    private int argument(char of) {
        boolean isWild = next(60) == 0;
        if (isWild) {
            return new int[] {-1, -2, 8, 12, 41, 121, 256, Integer.MAX_VALUE, Integer.MIN_VALUE, model.slots(),
                model.kinds(), model.imageLength(), model.made()}[next(13)];
        }
        if (next(15) == 0 && EDGES.indexOf(of) >= 0) {
            int[] edges = AT_EDGES[EDGES.indexOf(of)];
            return edges[next(edges.length)];
        }
        if (FORMS.indexOf(of) >= 0) {
            return slotWith(FORMS.indexOf(of));
        }
        switch (of) {
            case 's':
                return next(model.slots());
            case 'g':
                return next(8);
            case 'P':
                return next(model.kinds() + 1) - 1;
            case 'k':
                return next(Math.max(1, model.kinds()));
            case 'r':
                return next(4);
            case 'w':
                return 1 + next(8);
            case 'l':
                return next(longest);
            case 't':
                return next(longest * 3);
            case 'c':
                return 1 + next(Math.min(16, longest));
            case 'p':
                return next(lastSlot < model.slots() ? Math.max(1, Math.min(4, model.lengthOf(lastSlot))) : 4);
            case 'f':
                return next(2);
            case 'b':
                return next(2);
            case 'v':
                return next(5);
            case 'i':
                return next(Math.max(1, model.imageLength()));
            case 'a':
                return 1 + next(4);
            case 'x':
                return 1 + next(next(4) == 0 ? 50 : 3);
            default:
                return next(Math.max(1, model.made()));
        }
    }

    /** A slot, most often one that holds what the method is for; it is remembered, for the place that may follow. */
    private int slotWith(int wanted) {
        int first = next(model.slots());
        lastSlot = first;
        for (int i = 0; i < model.slots() && next(30) != 0; i++) {
            int slot = (first + i) % model.slots();
            int form = model.formOf(slot);
            if (form >= LEAST_FORM[wanted] && form <= MOST_FORM[wanted]) {
                lastSlot = slot;
                return slot;
            }
        }
        return first;
    }

    private int next(int bound) {
        seed = seed * 6364136223846793005L + 1442695040888963407L;
        return (int) Long.remainderUnsigned(seed >>> 33, bound);
    }
}
