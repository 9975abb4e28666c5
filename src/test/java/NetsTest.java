/** Promises 30 to 34: texts of which there is one, copies, images. */
final class NetsTest {
    public static void main(String[] args) {
        Check.runAll(NetsTest.class);
    }

    private static void makeText(RuntimeHeap heap, int slot, int... bytes) {
        heap.newText(slot, bytes.length);
        for (int i = 0; i < bytes.length; i++) {
            heap.setByte(slot, i, bytes[i]);
        }
    }

    private static void isImage(RuntimeHeap heap, int... numbers) {
        Check.same("imageLength", heap.imageLength(), numbers.length);
        for (int i = 0; i < numbers.length && i < heap.imageLength(); i++) {
            Check.same("imageAt(" + i + ")", heap.imageAt(i), numbers[i]);
        }
    }

    static void promise30Intern() {
        RuntimeHeap heap = new RuntimeHeap();
        makeText(heap, 0, 7, 8);
        makeText(heap, 1, 7, 8);
        makeText(heap, 2, 7, 8, 0);
        makeText(heap, 3, 7, 9);
        Check.same("the first becomes INTERNED", heap.intern(4, 1), 1);
        Check.same("slot", heap.numberOf(4), 1);
        Check.yes("INTERNED", heap.isInterned(1));
        Check.same("the same bytes", heap.intern(0, 0), 1);
        Check.same("slot", heap.numberOf(0), 1);
        Check.same("itself", heap.intern(5, 1), 1);
        Check.same("more bytes", heap.intern(5, 2), 2);
        Check.same("other bytes", heap.intern(5, 3), 3);
        makeText(heap, 6, 6, 9);
        Check.same("another first byte", heap.intern(6, 6), 4);
        Check.same("interned", heap.interned(), 4);
        heap.newText(6, 0);
        Check.same("no bytes", heap.intern(6, 6), 5);
        heap.newText(6, 0);
        Check.same("no bytes again", heap.intern(6, 6), 5);
        heap.newRow(7, 2);
        Check.noIndex(heap, "to", () -> heap.intern(8, 7));
        Check.noIndex(heap, "text", () -> heap.intern(7, -1));
        Check.badArgument(heap, "a ROW", () -> heap.intern(0, 7));
        heap.clear(7);
        Check.badArgument(heap, "nothing", () -> heap.intern(0, 7));
    }

    static void promise30OnlyWhilePresent() {
        RuntimeHeap heap = new RuntimeHeap();
        makeText(heap, 0, 5);
        heap.intern(0, 0);
        heap.clear(0);
        makeText(heap, 1, 5);
        heap.collectYoung();
        Check.same("the INTERNED one does not last", heap.interned(), 0);
        Check.no("INTERNED", heap.isInterned(1));
        Check.same("intern", heap.intern(2, 1), 1);
    }

    static void promise30FindsWhatIsNotReached() {
        RuntimeHeap heap = new RuntimeHeap();
        makeText(heap, 0, 5);
        heap.intern(0, 0);
        heap.clear(0);
        Check.same("no roots", heap.beginMarking(), 0);
        makeText(heap, 1, 5);
        Check.same("one that is still PRESENT", heap.intern(2, 1), 0);
        Check.same("it is READ", heap.step(50), 1);
        Check.no("marking", heap.isMarking());
        Check.yes("present", heap.isPresent(0));
        heap.clear(2);
        heap.beginMarking();
        Check.same("the other one only", heap.step(50), 1);
        Check.no("present", heap.isPresent(0));
    }

    /** Slot 0: a PLAIN (0) that holds itself, a ROW (1) and a WEAK (3); the ROW holds two TEXTs (2, 4) and it. */
    private static RuntimeHeap withNet() {
        RuntimeHeap heap = new RuntimeHeap();
        heap.defineKind(-1, 3, 1, false);
        heap.newObject(0, 0);
        heap.newRow(1, 4);
        makeText(heap, 2, 1, 2);
        heap.newWeak(3, 1, true);
        makeText(heap, 4, 9);
        heap.intern(4, 4);
        heap.setNumber(0, 0, -4);
        heap.store(0, 0, 0);
        heap.store(0, 1, 1);
        heap.store(0, 2, 3);
        heap.store(1, 0, 4);
        heap.store(1, 1, 2);
        heap.store(1, 3, 0);
        return heap;
    }

    static void promise31DeepCopy() {
        RuntimeHeap heap = withNet();
        heap.collectYoung();
        int words = heap.youngWords();
        Check.same("deepCopy", heap.deepCopy(7, 0), 5);
        Check.same("made", heap.made(), 8);
        Check.same("slot", heap.numberOf(7), 5);
        Check.same("slot from stays", heap.numberOf(0), 0);
        Check.same("words of the copies", heap.youngWords() - words, 6 + 6 + 3);
        Check.yes("alike", heap.sameShape(0, 7));
        Check.same("itself is copied", heap.load(6, 7, 0), 5);
        Check.same("a WEAK is the same one", heap.load(6, 7, 2), 3);
        Check.same("the number", heap.getNumber(7, 0), -4);
        Check.same("the ROW", heap.load(6, 7, 1), 6);
        Check.same("a place without object", heap.load(5, 6, 2), -1);
        Check.same("an INTERNED TEXT is the same one", heap.load(5, 6, 0), 4);
        Check.same("the PLAIN in the ROW", heap.load(5, 6, 3), 5);
        Check.same("the TEXT", heap.load(5, 6, 1), 7);
        Check.same("its bytes", heap.getByte(5, 1), 2);
        Check.same("ages are 0", heap.ageOf(5), 0);
        Check.same("that of the first one is not", heap.ageOf(0), 1);
        Check.same("the ROW alone, by rising numbers", heap.deepCopy(6, 1), 9);
        Check.same("the PLAIN is the smallest", heap.load(5, 6, 3), 8);
        Check.same("an INTERNED TEXT is not copied", heap.deepCopy(6, 4), 4);
        Check.same("slot", heap.numberOf(6), 4);
        Check.same("made", heap.made(), 11);
        Check.same("a TEXT", heap.deepCopy(6, 2), 11);
        heap.clear(6);
        heap.newTable(5, 1);
        Check.noIndex(heap, "to", () -> heap.deepCopy(8, 7));
        Check.noIndex(heap, "from", () -> heap.deepCopy(6, 8));
        Check.badArgument(heap, "nothing", () -> heap.deepCopy(0, 6));
        Check.badArgument(heap, "a WEAK", () -> heap.deepCopy(0, 3));
        Check.badArgument(heap, "a TABLE", () -> heap.deepCopy(0, 5));
    }

    static void promise31OneRoomForAll() {
        RuntimeHeap heap = new RuntimeHeap();
        heap.newRow(0, 15);
        heap.newRow(1, 14);
        heap.store(0, 0, 1);
        heap.clear(1);
        heap.deepCopy(2, 0);
        Check.yes("33 words: OLD", heap.isOld(2));
        heap.load(3, 2, 0);
        Check.yes("each of them", heap.isOld(3));
        Check.same("old words", heap.oldWords(), 33);
        heap.newRow(4, 13);
        heap.store(0, 0, 4);
        heap.deepCopy(5, 0);
        Check.no("32 words: YOUNG", heap.isOld(5));
        Check.same("young words", heap.youngWords(), 17 + 16 + 15 + 32);
    }

    static void promise31NoRoom() {
        RuntimeHeap heap = new RuntimeHeap();
        heap.newRow(0, 40);
        for (int i = 0; i < 5; i++) {
            heap.newRow(1, 38);
            heap.store(0, i, 1);
        }
        heap.clear(1);
        Check.same("old words", heap.oldWords(), 242);
        int made = heap.made();
        Check.same("no room", heap.deepCopy(0, 0), -1);
        Check.same("the slot stays", heap.numberOf(0), 0);
        Check.same("made", heap.made(), made);
        Check.same("what was done stays done", heap.youngCollections(), 1);
        Check.same("what was done stays done", heap.fullCollections(), 2);
    }

    static void promise31InternedTextsNeedNoRoom() {
        RuntimeHeap heap = new RuntimeHeap();
        heap.newRow(0, 30);
        heap.newText(1, 9);
        heap.intern(1, 1);
        heap.store(0, 0, 1);
        heap.deepCopy(2, 0);
        Check.no("32 words without it: YOUNG", heap.isOld(2));
        Check.same("the same TEXT", heap.load(3, 2, 0), 1);
        Check.same("a ROW has no kind", heap.kindOf(2), -1);
    }

    static void promise31CopyIntoTheFirstPlaceThere() {
        RuntimeHeap heap = new RuntimeHeap();
        heap.newRow(0, 0);
        heap.newRow(1, 1);
        heap.clear(0);
        heap.collectYoung();
        heap.store(1, 0, 1);
        for (int i = 0; i < 60; i++) {
            int copy = heap.deepCopy(2, 1);
            Check.same("a copy holds itself", heap.load(3, 2, 0), copy);
            heap.clear(2);
            heap.clear(3);
            heap.collectAll(false);
        }
    }

    static void promise31NeitherFinalizedNorNew() {
        RuntimeHeap heap = new RuntimeHeap();
        heap.defineKind(-1, 0, 0, true);
        heap.newObject(0, 0);
        heap.clear(0);
        heap.collectAll(false);
        heap.takeLast(0);
        Check.yes("FINALIZED", heap.isFinalized(0));
        heap.deepCopy(1, 0);
        Check.no("a copy is not", heap.isFinalized(1));
        heap.clear(1);
        heap.collectAll(false);
        Check.same("it is one day", heap.lasts(), 1);
    }

    static void promise31CopiesAreNew() {
        RuntimeHeap heap = withNet();
        heap.beginMarking();
        heap.deepCopy(7, 0);
        heap.clear(7);
        Check.same("only what was there is TO KEEP", heap.step(50), 5);
        Check.same("copies are kept, being NEW", heap.objects(), 8);
    }

    static void promise32WriteImage() {
        RuntimeHeap heap = withNet();
        Check.same("writeImage", heap.writeImage(0), 20);
        isImage(heap, 4, 0, 0, 1, 2, 0, -4, 1, 4, 3, 4, 0, 1, 3, 1, 9, 2, 2, 1, 2);
        Check.same("from the ROW", heap.writeImage(1), 20);
        isImage(heap, 4, 1, 4, 2, 3, 0, 4, 3, 1, 9, 2, 2, 1, 2, 0, 0, 4, 1, 0, -4);
        Check.same("of a TEXT", heap.writeImage(4), 4);
        isImage(heap, 1, 3, 1, 9);
        Check.noIndex(heap, "slot 8", () -> heap.writeImage(8));
        Check.noIndex(heap, "slot -1", () -> heap.writeImage(-1));
        Check.badArgument(heap, "a WEAK", () -> heap.writeImage(3));
        Check.badArgument(heap, "nothing", () -> heap.writeImage(7));
        heap.newTable(5, 1);
        Check.badArgument(heap, "a TABLE", () -> heap.writeImage(5));
    }

    static void promise32AtMost400() {
        RuntimeHeap heap = new RuntimeHeap();
        heap.newRow(0, 4);
        for (int i = 0; i < 3; i++) {
            heap.newText(1, 120);
            heap.store(0, i, 1);
            heap.collectAll(false);
        }
        heap.newText(1, 25);
        heap.store(0, 3, 1);
        Check.same("400 numbers", heap.writeImage(0), 1 + 6 + 3 * 122 + 27);
        heap.newText(1, 26);
        heap.store(0, 3, 1);
        Check.same("401 numbers", heap.writeImage(0), -1);
        Check.same("it stays as it is", heap.imageLength(), 400);
        Check.same("its last text", heap.imageAt(374), 25);
        for (int length : new int[] {24, 26, 120, 121}) {
            heap.setImage(374, length);
            Check.same("malformed at its end", heap.readImage(1), -2);
        }
        heap.setImage(374, 24);
        heap.setImage(0, 6);
        heap.setImage(399, 1);
        Check.same("half an object at its end", heap.readImage(1), -2);
        heap.setImage(374, 25);
        heap.setImage(399, 0);
        Check.same("no object at its end", heap.readImage(1), -2);
        heap.setImage(0, 5);
        heap.clear(0);
        Check.same("well formed again", heap.readImage(1), heap.made() - 5);
    }

    static void promise33SetImage() {
        RuntimeHeap heap = new RuntimeHeap();
        Check.noIndex(heap, "no IMAGE", () -> heap.setImage(0, 1));
        makeText(heap, 0, 6);
        heap.writeImage(0);
        Check.same("setImage", heap.setImage(3, 7), 6);
        Check.same("setImage", heap.setImage(3, -7), 7);
        Check.same("imageAt", heap.imageAt(3), -7);
        Check.noIndex(heap, "place 4", () -> heap.setImage(4, 1));
        Check.noIndex(heap, "place -1", () -> heap.setImage(-1, 1));
    }

    static void promise34ReadImage() {
        RuntimeHeap heap = withNet();
        heap.writeImage(0);
        Check.same("readImage", heap.readImage(7), 5);
        Check.same("slot", heap.numberOf(7), 5);
        Check.same("an INTERNED TEXT needs no number", heap.made(), 8);
        Check.same("the number", heap.getNumber(7, 0), -4);
        Check.same("itself", heap.load(6, 7, 0), 5);
        Check.same("a WEAK is not written", heap.load(6, 7, 2), -1);
        Check.same("the ROW", heap.load(6, 7, 1), 6);
        Check.same("the INTERNED TEXT", heap.load(5, 6, 0), 4);
        Check.same("the PLAIN", heap.load(5, 6, 3), 5);
        Check.same("nothing", heap.load(5, 6, 2), -1);
        Check.same("the TEXT", heap.load(5, 6, 1), 7);
        Check.same("its bytes", heap.getByte(5, 0), 1);
        Check.no("not INTERNED", heap.isInterned(5));
        Check.noIndex(heap, "slot 8", () -> heap.readImage(8));
        Check.noIndex(heap, "slot -1", () -> heap.readImage(-1));
    }

    static void promise34MakesInternedTexts() {
        RuntimeHeap heap = new RuntimeHeap();
        makeText(heap, 0, 3);
        makeText(heap, 1, 3);
        heap.newRow(2, 2);
        heap.store(2, 0, 0);
        heap.store(2, 1, 1);
        heap.writeImage(2);
        Check.same("two TEXTs", heap.readImage(3), 3);
        Check.same("made", heap.made(), 6);
        heap.setImage(5, 3);
        heap.setImage(8, 3);
        isImage(heap, 3, 1, 2, 2, 3, 3, 1, 3, 3, 1, 3);
        Check.same("one INTERNED TEXT for both", heap.readImage(3), 6);
        Check.same("made", heap.made(), 8);
        Check.same("interned", heap.interned(), 1);
        Check.same("the first one", heap.load(4, 3, 0), 7);
        Check.same("the second one", heap.load(5, 3, 1), 7);
        makeText(heap, 0, 4);
        heap.intern(0, 0);
        heap.writeImage(0);
        int made = heap.made();
        Check.same("one that is there", heap.readImage(1), heap.numberOf(0));
        Check.same("made", heap.made(), made);
    }

    static void promise34ReadingAnInternedText() {
        RuntimeHeap heap = new RuntimeHeap();
        makeText(heap, 0, 3);
        heap.intern(0, 0);
        heap.writeImage(0);
        heap.clear(0);
        heap.beginMarking();
        Check.same("readImage", heap.readImage(1), 0);
        Check.same("it is READ", heap.step(50), 1);
        Check.yes("present", heap.isPresent(0));
    }

    static void promise34Room() {
        RuntimeHeap heap = new RuntimeHeap();
        heap.newRow(0, 15);
        heap.newRow(1, 13);
        heap.store(0, 3, 1);
        heap.writeImage(0);
        heap.clear(0);
        heap.clear(1);
        heap.readImage(2);
        Check.no("32 words: YOUNG", heap.isOld(2));
        heap.newRow(1, 14);
        heap.store(2, 3, 1);
        heap.writeImage(2);
        heap.readImage(3);
        Check.yes("33 words: OLD", heap.isOld(3));
        heap.load(4, 3, 3);
        Check.yes("each of them", heap.isOld(4));
    }

    static void promise34NoRoom() {
        RuntimeHeap heap = new RuntimeHeap();
        heap.newRow(0, 40);
        for (int i = 0; i < 4; i++) {
            heap.newRow(1, 38);
            heap.store(0, i, 1);
        }
        heap.writeImage(0);
        Check.same("old words", heap.oldWords(), 202);
        Check.same("no room", heap.readImage(2), -1);
        Check.same("the slot stays", heap.numberOf(2), -1);
        Check.same("made", heap.made(), 5);
        Check.same("full collections", heap.fullCollections(), 2);
        heap.clear(0);
        Check.same("room now", heap.readImage(2), 5);
    }

    static void promise34RoomForInternedTexts() {
        RuntimeHeap heap = new RuntimeHeap();
        heap.newText(0, 120);
        heap.intern(0, 0);
        heap.writeImage(0);
        heap.newRow(1, 30);
        heap.newRow(2, 30);
        Check.same("room is asked for one that is there", heap.readImage(3), 0);
        Check.same("young collections", heap.youngCollections(), 1);
        Check.same("made", heap.made(), 3);
    }

    private static void isMalformed(RuntimeHeap heap, int place, int value) {
        int before = heap.setImage(place, value);
        Check.same("place " + place + " is " + value, heap.readImage(7), -2);
        Check.same("the slot stays", heap.numberOf(7), -1);
        heap.setImage(place, before);
    }

    static void promise34MalformedImages() {
        RuntimeHeap heap = new RuntimeHeap();
        Check.same("no IMAGE", heap.readImage(7), -2);
        heap.defineKind(-1, 2, 1, false);
        heap.newObject(0, 0);
        heap.newRow(1, 1);
        makeText(heap, 2, 255, 0);
        makeText(heap, 3, 4);
        heap.intern(3, 3);
        heap.store(0, 0, 1);
        heap.store(0, 1, 2);
        heap.store(1, 0, 3);
        heap.writeImage(0);
        isImage(heap, 4, 0, 0, 2, 3, 0, 1, 1, 4, 2, 2, 255, 0, 3, 1, 4);
        int[][] wrong = {{0, 0}, {0, -1}, {0, 3}, {0, 5}, {0, Integer.MAX_VALUE}, {1, 4}, {1, -1}, {1, 1}, {2, 1},
            {2, -1}, {3, 5}, {3, -1}, {4, 5}, {7, 0}, {7, 2}, {7, -1}, {7, 41}, {8, 5}, {8, -1}, {10, 1}, {10, 3},
            {10, -1}, {10, 121}, {11, 256}, {11, -1}, {12, 256}, {14, 0}, {14, 2}, {14, -1}, {15, 256}, {15, -1},
            {14, Integer.MAX_VALUE}, {10, Integer.MIN_VALUE}, {2, Integer.MAX_VALUE}};
        for (int[] change : wrong) {
            isMalformed(heap, change[0], change[1]);
        }
        int made = heap.made();
        heap.setImage(5, Integer.MIN_VALUE);
        heap.setImage(3, 0);
        heap.setImage(8, 1);
        Check.same("any number field, any reference up to n", heap.readImage(7), made);
        Check.same("the number field", heap.getNumber(7, 0), Integer.MIN_VALUE);
        Check.same("what none holds is made as well", heap.made(), made + 3);
    }

    static void promise34TooLongLengths() {
        RuntimeHeap heap = new RuntimeHeap();
        heap.newText(0, 41);
        heap.writeImage(0);
        heap.setImage(1, 1);
        Check.same("a ROW of 41 places", heap.readImage(7), -2);
        heap.newText(0, 40);
        heap.writeImage(0);
        heap.setImage(1, 1);
        Check.same("a ROW of 40 places", heap.readImage(7), 2);
        Check.same("a ROW has no kind", heap.kindOf(7), -1);
        heap.clear(7);
        heap.newRow(0, 2);
        heap.newText(1, 120);
        heap.newText(2, 5);
        heap.store(0, 0, 1);
        heap.store(0, 1, 2);
        heap.writeImage(0);
        heap.setImage(0, 2);
        heap.setImage(4, 0);
        heap.setImage(6, 127);
        Check.same("a TEXT of 127 bytes", heap.readImage(7), -2);
        heap.setImage(0, 1);
        heap.setImage(1, 2);
        heap.setImage(2, 131);
        Check.same("a TEXT of 131 bytes", heap.readImage(7), -2);
        heap.setImage(1, 3);
        Check.same("an INTERNED one", heap.readImage(7), -2);
    }

    static void promise34IntoAnEmptyMemory() {
        RuntimeHeap heap = new RuntimeHeap();
        heap.newRow(0, 2);
        makeText(heap, 1, 8);
        heap.store(0, 1, 1);
        heap.store(0, 0, 0);
        heap.writeImage(0);
        heap.clear(0);
        heap.clear(1);
        heap.collectAll(false);
        Check.same("readImage", heap.readImage(2), 2);
        Check.same("itself", heap.load(3, 2, 0), 2);
        Check.same("the TEXT", heap.load(3, 2, 1), 3);
        Check.same("its byte", heap.getByte(3, 0), 8);
        Check.no("not INTERNED", heap.isInterned(3));
        heap.newText(4, 1);
        heap.setByte(4, 0, 8);
        heap.writeImage(4);
        heap.setImage(1, 3);
        heap.clear(2);
        heap.clear(3);
        heap.clear(4);
        heap.collectAll(false);
        heap.readImage(0);
        Check.yes("INTERNED", heap.isInterned(0));
    }

    static void promise34LongestLengths() {
        RuntimeHeap heap = new RuntimeHeap();
        heap.newRow(0, 40);
        heap.newText(1, 120);
        heap.store(0, 39, 1);
        heap.writeImage(0);
        Check.same("40 places, 120 bytes", heap.readImage(2), 2);
        heap.newRow(0, 0);
        heap.writeImage(0);
        Check.same("no places", heap.readImage(2), 5);
        heap.newText(0, 0);
        heap.writeImage(0);
        Check.same("no bytes", heap.readImage(2), 7);
        heap.setImage(0, 2);
        Check.same("one is missing", heap.readImage(2), -2);
    }
}
