/** Promises 1 to 8 and 40 to 48: kinds, frames, slots and globals. */
final class KindsAndFramesTest {
    public static void main(String[] args) {
        Check.runAll(KindsAndFramesTest.class);
    }

    static void promise1NewObject() {
        RuntimeHeap heap = new RuntimeHeap();
        Check.same("objects", heap.objects(), 0);
        Check.same("made", heap.made(), 0);
        Check.same("kinds", heap.kinds(), 0);
        Check.same("frames", heap.frames(), 1);
        Check.same("slots", heap.slots(), 8);
        Check.same("tenure", heap.tenure(), 2);
        Check.same("imageLength", heap.imageLength(), 0);
        Check.same("queued", heap.queued(), 0);
        Check.same("lasts", heap.lasts(), 0);
        Check.same("youngCollections", heap.youngCollections(), 0);
        Check.same("fullCollections", heap.fullCollections(), 0);
        Check.no("isMarking", heap.isMarking());
        for (int i = 0; i < 8; i++) {
            Check.same("numberOf", heap.numberOf(i), -1);
            Check.same("globalNumber", heap.globalNumber(i), -1);
        }
    }

    static void promise2DefineKind() {
        RuntimeHeap heap = new RuntimeHeap();
        Check.same("the first kind", heap.defineKind(-1, 2, 1, false), 0);
        Check.same("its child", heap.defineKind(0, 4, 3, true), 1);
        Check.same("references with the parent's", heap.referencesOf(1), 6);
        Check.same("numbers with the parent's", heap.numbersOf(1), 4);
        Check.same("exactly 8 of each", heap.defineKind(1, 2, 4, false), 2);
        Check.noIndex(heap, "no such parent", () -> heap.defineKind(3, 0, 0, false));
        Check.noIndex(heap, "parent -2", () -> heap.defineKind(-2, 0, 0, false));
        Check.noIndex(heap, "the parent first", () -> heap.defineKind(-2, 5, 0, false));
        Check.badArgument(heap, "5 references", () -> heap.defineKind(-1, 5, 0, false));
        Check.badArgument(heap, "-1 references", () -> heap.defineKind(-1, -1, 0, false));
        Check.badArgument(heap, "5 numbers", () -> heap.defineKind(-1, 0, 5, false));
        Check.badArgument(heap, "-1 numbers", () -> heap.defineKind(-1, 0, -1, false));
        Check.badArgument(heap, "9 references in all", () -> heap.defineKind(2, 1, 0, false));
        Check.badArgument(heap, "9 numbers in all", () -> heap.defineKind(2, 0, 1, false));
        Check.badArgument(heap, "far too many", () -> heap.defineKind(2, Integer.MAX_VALUE, 0, false));
        for (int kind = 3; kind < 12; kind++) {
            Check.same("one kind more", heap.defineKind(2, 0, 0, false), kind);
        }
        Check.badState(heap, "a 13th kind", () -> heap.defineKind(-1, 0, 0, false));
        Check.badArgument(heap, "the arguments ahead of the state", () -> heap.defineKind(-1, 5, 0, false));
        Check.noIndex(heap, "the parent ahead of the state", () -> heap.defineKind(12, 0, 0, false));
        Check.same("kinds", heap.kinds(), 12);
    }

    static void promise3Push() {
        RuntimeHeap heap = new RuntimeHeap();
        Check.badArgument(heap, "push(0)", () -> heap.push(0));
        Check.badArgument(heap, "push(9)", () -> heap.push(9));
        heap.newRow(0, 1);
        Check.same("push(1)", heap.push(1), 2);
        Check.same("a new slot holds nothing", heap.numberOf(0), -1);
        Check.noIndex(heap, "there is one slot", () -> heap.numberOf(1));
        for (int frames = 3; frames <= 8; frames++) {
            Check.same("push(8)", heap.push(8), frames);
        }
        Check.badState(heap, "a ninth frame", () -> heap.push(1));
        Check.badArgument(heap, "the argument ahead of the state", () -> heap.push(0));
    }

    static void promise4Pop() {
        RuntimeHeap heap = new RuntimeHeap();
        Check.badState(heap, "the only frame", () -> heap.pop(7));
        Check.noIndex(heap, "the slot ahead of the state", () -> heap.pop(8));
        heap.newRow(0, 0);
        heap.newRow(5, 0);
        heap.push(3);
        heap.newRow(2, 1);
        Check.noIndex(heap, "a slot of the top frame", () -> heap.pop(3));
        Check.noIndex(heap, "pop(-1)", () -> heap.pop(-1));
        Check.same("pop(2)", heap.pop(2), 2);
        Check.same("frames", heap.frames(), 1);
        Check.same("slot 0 below", heap.numberOf(0), 2);
        Check.same("slot 5 below", heap.numberOf(5), 1);
        heap.push(1);
        Check.same("pop of nothing", heap.pop(0), -1);
        Check.same("slot 0 holds nothing", heap.numberOf(0), -1);
        heap.push(2);
        heap.newRow(1, 0);
        heap.pop(0);
        heap.push(2);
        Check.same("what a dropped frame held does not come back", heap.numberOf(1), -1);
        heap.collectAll(false);
        Check.no("nor is it held", heap.isPresent(3));
    }

    static void promise5Assign() {
        RuntimeHeap heap = new RuntimeHeap();
        heap.newRow(1, 2);
        Check.same("assign", heap.assign(7, 1), 0);
        Check.same("to", heap.numberOf(7), 0);
        Check.same("from", heap.numberOf(1), 0);
        Check.same("the same slot", heap.assign(7, 7), 0);
        Check.same("nothing", heap.assign(7, 3), -1);
        Check.same("to holds nothing", heap.numberOf(7), -1);
        Check.noIndex(heap, "to", () -> heap.assign(8, 1));
        Check.noIndex(heap, "from", () -> heap.assign(1, -1));
    }

    static void promise6Clear() {
        RuntimeHeap heap = new RuntimeHeap();
        heap.newRow(1, 2);
        heap.assign(2, 1);
        Check.same("clear", heap.clear(1), 0);
        Check.same("it holds nothing", heap.numberOf(1), -1);
        Check.same("the other one stays", heap.numberOf(2), 0);
        Check.same("clear again", heap.clear(1), -1);
        Check.noIndex(heap, "clear(8)", () -> heap.clear(8));
        Check.noIndex(heap, "clear(-1)", () -> heap.clear(-1));
    }

    static void promise7ToGlobal() {
        RuntimeHeap heap = new RuntimeHeap();
        heap.newRow(0, 0);
        heap.newRow(1, 0);
        Check.same("toGlobal", heap.toGlobal(7, 0), -1);
        Check.same("what it held", heap.toGlobal(7, 1), 0);
        Check.same("globalNumber", heap.globalNumber(7), 1);
        Check.same("slot", heap.numberOf(1), 1);
        Check.same("nothing", heap.toGlobal(7, 2), 1);
        Check.same("globalNumber", heap.globalNumber(7), -1);
        Check.noIndex(heap, "global 8", () -> heap.toGlobal(8, 0));
        Check.noIndex(heap, "global -1", () -> heap.toGlobal(-1, 0));
        Check.noIndex(heap, "slot 8", () -> heap.toGlobal(0, 8));
        Check.noIndex(heap, "slot -1", () -> heap.toGlobal(0, -1));
        heap.toGlobal(3, 1);
        heap.clear(1);
        heap.clear(0);
        heap.collectAll(true);
        Check.yes("a global is a root", heap.isPresent(1));
        Check.no("nothing else holds the other one", heap.isPresent(0));
    }

    static void promise8FromGlobal() {
        RuntimeHeap heap = new RuntimeHeap();
        heap.newRow(0, 0);
        heap.toGlobal(2, 0);
        heap.push(2);
        Check.same("fromGlobal", heap.fromGlobal(1, 2), 0);
        Check.same("slot", heap.numberOf(1), 0);
        Check.same("global", heap.globalNumber(2), 0);
        Check.same("nothing", heap.fromGlobal(1, 0), -1);
        Check.same("slot", heap.numberOf(1), -1);
        Check.noIndex(heap, "slot 2", () -> heap.fromGlobal(2, 0));
        Check.noIndex(heap, "slot -1", () -> heap.fromGlobal(-1, 0));
        Check.noIndex(heap, "global 8", () -> heap.fromGlobal(0, 8));
        Check.noIndex(heap, "global -1", () -> heap.fromGlobal(0, -1));
    }

    static void promise40Frames() {
        RuntimeHeap heap = new RuntimeHeap();
        Check.same("at first", heap.frames(), 1);
        heap.push(3);
        heap.push(4);
        Check.same("behind two pushes", heap.frames(), 3);
        heap.pop(0);
        Check.same("behind a pop", heap.frames(), 2);
    }

    static void promise41Slots() {
        RuntimeHeap heap = new RuntimeHeap();
        Check.same("at first", heap.slots(), 8);
        heap.push(3);
        Check.same("of the top frame", heap.slots(), 3);
        heap.push(5);
        Check.same("of the next one", heap.slots(), 5);
        heap.pop(4);
        Check.same("of the one below", heap.slots(), 3);
    }

    static void promise42Kinds() {
        RuntimeHeap heap = new RuntimeHeap();
        heap.defineKind(-1, 0, 0, false);
        heap.defineKind(0, 0, 0, true);
        Check.same("kinds", heap.kinds(), 2);
        Check.badArgument(heap, "a kind that is refused", () -> heap.defineKind(0, 9, 0, false));
        Check.same("kinds", heap.kinds(), 2);
    }

    private static RuntimeHeap withKinds() {
        RuntimeHeap heap = new RuntimeHeap();
        heap.defineKind(-1, 1, 2, false);
        heap.defineKind(0, 3, 0, true);
        heap.defineKind(1, 0, 4, false);
        heap.defineKind(-1, 4, 4, false);
        return heap;
    }

    static void promise43ReferencesOf() {
        RuntimeHeap heap = withKinds();
        Check.same("own ones", heap.referencesOf(0), 1);
        Check.same("with the parent's", heap.referencesOf(1), 4);
        Check.same("with the grandparent's", heap.referencesOf(2), 4);
        Check.same("without parent", heap.referencesOf(3), 4);
        Check.noIndex(heap, "kind 4", () -> heap.referencesOf(4));
        Check.noIndex(heap, "kind -1", () -> heap.referencesOf(-1));
    }

    static void promise44NumbersOf() {
        RuntimeHeap heap = withKinds();
        Check.same("own ones", heap.numbersOf(0), 2);
        Check.same("with the parent's", heap.numbersOf(1), 2);
        Check.same("with the grandparent's", heap.numbersOf(2), 6);
        Check.same("without parent", heap.numbersOf(3), 4);
        Check.noIndex(heap, "kind 4", () -> heap.numbersOf(4));
        Check.noIndex(heap, "kind -1", () -> heap.numbersOf(-1));
    }

    static void promise45IsFinal() {
        RuntimeHeap heap = withKinds();
        Check.no("not said, no parent", heap.isFinal(0));
        Check.yes("said", heap.isFinal(1));
        Check.yes("an ancestor", heap.isFinal(2));
        Check.no("another one", heap.isFinal(3));
        Check.noIndex(heap, "kind 4", () -> heap.isFinal(4));
        Check.noIndex(heap, "kind -1", () -> heap.isFinal(-1));
    }

    static void promise46IsKindOf() {
        RuntimeHeap heap = withKinds();
        Check.yes("the same", heap.isKindOf(0, 0));
        Check.yes("the parent", heap.isKindOf(1, 0));
        Check.yes("the parent's parent", heap.isKindOf(2, 0));
        Check.no("the child", heap.isKindOf(0, 2));
        Check.no("another one", heap.isKindOf(3, 0));
        Check.no("another ancestor", heap.isKindOf(2, 3));
        Check.noIndex(heap, "kind", () -> heap.isKindOf(4, 0));
        Check.noIndex(heap, "kind -1", () -> heap.isKindOf(-1, 0));
        Check.noIndex(heap, "ancestor", () -> heap.isKindOf(0, 4));
        Check.noIndex(heap, "ancestor -1", () -> heap.isKindOf(0, -1));
        RuntimeHeap long12 = new RuntimeHeap();
        for (int kind = 0; kind < 12; kind++) {
            long12.defineKind(kind - 1, 0, 0, false);
        }
        Check.yes("the farthest ancestor that there can be", long12.isKindOf(11, 0));
    }

    static void promise47NumberOf() {
        RuntimeHeap heap = new RuntimeHeap();
        heap.newRow(3, 0);
        heap.newRow(3, 0);
        Check.same("numberOf", heap.numberOf(3), 1);
        Check.same("of nothing", heap.numberOf(0), -1);
        Check.noIndex(heap, "slot 8", () -> heap.numberOf(8));
        Check.noIndex(heap, "slot -1", () -> heap.numberOf(-1));
    }

    static void promise48GlobalNumber() {
        RuntimeHeap heap = new RuntimeHeap();
        heap.newRow(3, 0);
        heap.newRow(3, 0);
        heap.toGlobal(7, 3);
        heap.push(1);
        Check.same("globalNumber", heap.globalNumber(7), 1);
        Check.same("of nothing", heap.globalNumber(0), -1);
        Check.noIndex(heap, "global 8", () -> heap.globalNumber(8));
        Check.noIndex(heap, "global -1", () -> heap.globalNumber(-1));
    }
}
