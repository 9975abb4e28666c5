/** Boundary cases: each runs on memories of its own, and what is refused is compared with a twin that was not asked. */
final class Edge {
    /** Some calls on a memory. */
    interface Act {
        void on(RuntimeHeap heap);
    }

    /** A call whose answer matters. */
    interface Ask {
        Object of(RuntimeHeap heap);
    }

    /** A call with the one argument that a test is about. */
    interface With {
        void on(RuntimeHeap heap, int argument);
    }

    static final Act NEW = heap -> { };

    private static final int[] FAR = {Integer.MIN_VALUE, -1, Integer.MAX_VALUE};

    private Edge() {
    }

    static RuntimeHeap behind(Act scene) {
        RuntimeHeap heap = new RuntimeHeap();
        scene.on(heap);
        return heap;
    }

    static void answers(String what, Object due, Act scene, Ask ask) {
        RuntimeHeap heap = behind(scene);
        answers(what, due, heap, ask);
    }

    private static void answers(String what, Object due, RuntimeHeap heap, Ask ask) {
        Object got;
        try {
            got = ask.of(heap);
        } catch (RuntimeException e) {
            got = e;
        }
        if (!due.equals(got)) {
            Check.tell(what + " answered " + got + ", due is " + due);
        }
    }

    /** The call answers that, and behind it all is as it would be without it. */
    static void changesNothing(String what, Object due, Act scene, Ask ask) {
        RuntimeHeap heap = behind(scene);
        answers(what, due, heap, ask);
        isLikeItsTwin(what, heap, scene);
    }

    private static void isLikeItsTwin(String what, RuntimeHeap heap, Act scene) {
        if (!Dump.of(heap).equals(Dump.of(behind(scene)))) {
            Check.tell(what + " changed something");
        }
    }

    static void refuses(Class<? extends RuntimeException> due, String what, Act scene, Act call) {
        RuntimeHeap heap = behind(scene);
        Class<?> got = null;
        try {
            call.on(heap);
        } catch (RuntimeException e) {
            got = e.getClass();
        }
        if (got != due) {
            Check.tell(what + " threw " + got + ", due is " + due);
        }
        isLikeItsTwin(what, heap, scene);
    }

    static void noIndex(String what, Act scene, Act call) {
        refuses(IndexOutOfBoundsException.class, what, scene, call);
    }

    static void badArgument(String what, Act scene, Act call) {
        refuses(IllegalArgumentException.class, what, scene, call);
    }

    static void badState(String what, Act scene, Act call) {
        refuses(IllegalStateException.class, what, scene, call);
    }

    /** The call takes all arguments from the first to the last one, and refuses others with that exception. */
    static void range(Class<? extends RuntimeException> due, String what, int first, int last, Act scene, With call) {
        for (int argument : new int[] {first, last}) {
            takes(what + " " + argument, scene, heap -> call.on(heap, argument));
        }
        for (int argument : new int[] {first - 1, last + 1, FAR[0], FAR[1], FAR[2]}) {
            if (argument < first || argument > last) {
                refuses(due, what + " " + argument, scene, heap -> call.on(heap, argument));
            }
        }
    }

    static void takes(String what, Act scene, Act call) {
        try {
            call.on(behind(scene));
        } catch (RuntimeException e) {
            Check.tell(what + " threw " + e + ", due is an answer");
        }
    }

    /**
     * An argument has to be a slot of the top frame: its first and last one, not one more, nor one of the frame below.
     * The fill puts into a slot what the call wants to find there; slot 1 is free for what else a call needs.
     */
    static void slot(String what, Act scene, With fill, With call) {
        slotOfFrame(what + ", the only frame, slot", 8, scene, fill, call);
        slotOfFrame(what + ", 3 slots upon 8, slot", 3, both(scene, heap -> heap.push(3)), fill, call);
        slotOfFrame(what + ", 8 slots upon 2, slot", 8, both(scene, heap -> {
            heap.push(2);
            heap.push(8);
        }), fill, call);
    }

    private static void slotOfFrame(String what, int width, Act scene, With fill, With call) {
        for (int slot : new int[] {0, width - 1}) {
            takes(what + " " + slot, both(scene, heap -> fill.on(heap, slot)), heap -> call.on(heap, slot));
        }
        for (int slot : new int[] {width, FAR[0], FAR[1], FAR[2]}) {
            noIndex(what + " " + slot, both(scene, heap -> fill.on(heap, 0)), heap -> call.on(heap, slot));
        }
    }

    static Act both(Act first, Act second) {
        return heap -> {
            first.on(heap);
            second.on(heap);
        };
    }
}
