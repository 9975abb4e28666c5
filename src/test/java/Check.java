import java.lang.reflect.InvocationTargetException;
import java.lang.reflect.Method;
import java.lang.reflect.Modifier;

/** What the tests have in common: runs the tests of a class, and counts and tells what was not as due. */
final class Check {
    /** A call that may throw. */
    interface Call {
        void make();
    }

    private static int wrong;

    private Check() {
    }

    static void same(String what, long got, long due) {
        if (got != due) {
            tell(what + " answered " + got + ", due is " + due);
        }
    }

    static void same(String what, double got, double due) {
        if (got != due) {
            tell(what + " answered " + got + ", due is " + due);
        }
    }

    static void yes(String what, boolean got) {
        if (!got) {
            tell(what + " answered false, due is true");
        }
    }

    static void no(String what, boolean got) {
        if (got) {
            tell(what + " answered true, due is false");
        }
    }

    /** The call has to throw exactly that exception, and to change nothing. */
    static void refused(RuntimeHeap heap, Class<? extends RuntimeException> due, String what, Call call) {
        long before = heap.digest();
        Class<?> got = null;
        try {
            call.make();
        } catch (RuntimeException e) {
            got = e.getClass();
        }
        if (got != due) {
            tell(what + " threw " + got + ", due is " + due);
        }
        same(what + ": the digest behind it", heap.digest(), before);
    }

    static void noIndex(RuntimeHeap heap, String what, Call call) {
        refused(heap, IndexOutOfBoundsException.class, what, call);
    }

    static void badArgument(RuntimeHeap heap, String what, Call call) {
        refused(heap, IllegalArgumentException.class, what, call);
    }

    static void badState(RuntimeHeap heap, String what, Call call) {
        refused(heap, IllegalStateException.class, what, call);
    }

    /** Runs all static methods whose names begin with "promise", "terms" or "run"; ends with 1 if one fails. */
    static void runAll(Class<?> tests) {
        int passed = 0;
        int failed = 0;
        for (Method test : tests.getDeclaredMethods()) {
            boolean isTest = test.getName().matches("(promise|terms|run)[A-Z0-9].*");
            if (isTest && Modifier.isStatic(test.getModifiers()) && test.getParameterCount() == 0) {
                if (passes(test)) {
                    passed++;
                } else {
                    failed++;
                    System.out.println("FAILED: " + tests.getName() + "." + test.getName());
                }
            }
        }
        System.out.println(tests.getName() + ": " + passed + " passed, " + failed + " failed");
        if (failed > 0 || passed == 0) {
            System.exit(1);
        }
    }

    private static boolean passes(Method test) {
        int before = wrong;
        try {
            test.setAccessible(true);
            test.invoke(null);
        } catch (InvocationTargetException e) {
            tell(test.getName() + " threw " + e.getCause());
            e.getCause().printStackTrace(System.out);
        } catch (IllegalAccessException e) {
            tell(test.getName() + " cannot be called");
        }
        return wrong == before;
    }

    static void tell(String text) {
        wrong++;
        System.out.println("  " + text);
    }
}
