/** Promises 49 to 72: what a slot holds, and the whole memory. */
final class AskedTest {
    public static void main(String[] args) {
        Check.runAll(AskedTest.class);
    }

    /** Slots 0 to 6 hold an object of each form by its number (0, 1, 2 ..), slot 7 nothing. */
    private static RuntimeHeap withAllForms() {
        RuntimeHeap heap = new RuntimeHeap();
        heap.defineKind(-1, 1, 1, false);
        heap.defineKind(0, 2, 4, false);
        heap.newObject(0, 1);
        heap.newRow(1, 4);
        heap.newText(2, 9);
        heap.newWeak(3, 0, false);
        heap.newSoft(4, 0, false);
        heap.newPhantom(5, 0);
        heap.newTable(6, 5);
        return heap;
    }

    /** Asks of slots 0 to 7 one by one. */
    private interface Question {
        long of(int slot);
    }

    private static void areAnswers(RuntimeHeap heap, Question question, long... due) {
        for (int slot = 0; slot < due.length; slot++) {
            Check.same("of slot " + slot, question.of(slot), due[slot]);
        }
        Check.noIndex(heap, "slot 8", () -> question.of(8));
        Check.noIndex(heap, "slot -1", () -> question.of(-1));
        heap.push(2);
        Check.noIndex(heap, "slot 2 of 2", () -> question.of(2));
    }

    static void promise49FormOf() {
        RuntimeHeap heap = withAllForms();
        areAnswers(heap, heap::formOf, 0, 1, 2, 3, 4, 5, 6, -1);
    }

    static void promise50KindOf() {
        RuntimeHeap heap = withAllForms();
        areAnswers(heap, heap::kindOf, 1, -1, -1, -1, -1, -1, -1, -1);
    }

    static void promise51LengthOf() {
        RuntimeHeap heap = withAllForms();
        areAnswers(heap, heap::lengthOf, 3, 4, 9, 1, 1, 1, 5, -1);
    }

    static void promise52WordsOf() {
        RuntimeHeap heap = withAllForms();
        areAnswers(heap, heap::wordsOf, 2 + 3 + 5, 6, 5, 3, 3, 3, 12, 0);
    }

    static void promise53AgeOf() {
        RuntimeHeap heap = withAllForms();
        heap.setTenure(3);
        heap.collectYoung();
        heap.collectYoung();
        heap.newRow(1, 0);
        heap.newRow(2, 40);
        heap.collectAll(false);
        heap.collectYoung();
        areAnswers(heap, heap::ageOf, 2, 0, 0, 2, 2, 2, 2, -1);
    }

    static void promise54IsOld() {
        RuntimeHeap heap = withAllForms();
        heap.newRow(1, 31);
        areAnswers(heap, slot -> heap.isOld(slot) ? 1 : 0, 0, 1, 0, 0, 0, 0, 0, 0);
        heap.pop(0);
        heap.collectAll(false);
        areAnswers(heap, slot -> heap.isOld(slot) ? 1 : 0, 0, 1, 1, 1, 1, 1, 1, 0);
    }

    static void promise55IsFinalized() {
        RuntimeHeap heap = withAllForms();
        heap.defineKind(1, 0, 0, true);
        heap.newObject(0, 2);
        heap.clear(0);
        heap.collectYoung();
        heap.takeLast(1);
        heap.newObject(2, 2);
        areAnswers(heap, slot -> heap.isFinalized(slot) ? 1 : 0, 0, 1, 0, 0, 0, 0, 0, 0);
    }

    static void promise56IsInterned() {
        RuntimeHeap heap = withAllForms();
        heap.intern(2, 2);
        heap.newText(1, 9);
        areAnswers(heap, slot -> heap.isInterned(slot) ? 1 : 0, 0, 0, 1, 0, 0, 0, 0, 0);
    }

    static void promise57IsCleared() {
        RuntimeHeap heap = withAllForms();
        areAnswers(heap, slot -> heap.isCleared(slot) ? 1 : 0, 0, 0, 0, 0, 0, 0, 0, 0);
        heap.pop(0);
        heap.clear(0);
        heap.collectAll(true);
        areAnswers(heap, slot -> heap.isCleared(slot) ? 1 : 0, 0, 0, 0, 1, 1, 1, 0, 0);
    }

    static void promise58EntriesOf() {
        RuntimeHeap heap = withAllForms();
        heap.put(6, 6, 7);
        heap.put(6, 1, 1);
        heap.put(6, 1, 2);
        areAnswers(heap, heap::entriesOf, -1, -1, -1, -1, -1, -1, 2, -1);
    }

    static void promise59Objects() {
        RuntimeHeap heap = withAllForms();
        Check.same("objects", heap.objects(), 7);
        heap.clear(1);
        Check.same("PRESENT till it is removed", heap.objects(), 7);
        heap.collectYoung();
        Check.same("objects", heap.objects(), 6);
    }

    static void promise60YoungObjects() {
        RuntimeHeap heap = withAllForms();
        Check.same("all", heap.youngObjects(), 7);
        heap.newRow(7, 31);
        Check.same("but the OLD one", heap.youngObjects(), 7);
        heap.collectAll(false);
        Check.same("none", heap.youngObjects(), 0);
    }

    static void promise61YoungWords() {
        RuntimeHeap heap = withAllForms();
        Check.same("all", heap.youngWords(), 10 + 6 + 5 + 9 + 12);
        heap.newRow(7, 31);
        Check.same("but the OLD one's", heap.youngWords(), 42);
        heap.clear(1);
        heap.collectYoung();
        Check.same("but those of the removed one", heap.youngWords(), 36);
        heap.collectAll(false);
        Check.same("none", heap.youngWords(), 0);
    }

    static void promise62OldWords() {
        RuntimeHeap heap = withAllForms();
        Check.same("none", heap.oldWords(), 0);
        heap.newRow(7, 31);
        Check.same("the OLD one's", heap.oldWords(), 33);
        heap.collectAll(false);
        Check.same("all", heap.oldWords(), 75);
        heap.clear(7);
        heap.collectAll(false);
        Check.same("but those of the removed one", heap.oldWords(), 42);
    }

    static void promise63Made() {
        RuntimeHeap heap = withAllForms();
        Check.same("made", heap.made(), 7);
        heap.clear(6);
        heap.collectAll(false);
        Check.same("removed ones count", heap.made(), 7);
        heap.newRow(6, 0);
        Check.same("numbers are not used again", heap.numberOf(6), 7);
        Check.same("made", heap.made(), 8);
    }

    static void promise64Queued() {
        RuntimeHeap heap = withAllForms();
        heap.newWeak(2, 0, true);
        heap.clear(0);
        Check.same("queued", heap.queued(), 0);
        heap.collectAll(true);
        Check.same("queued", heap.queued(), 2);
        heap.poll(0);
        Check.same("queued", heap.queued(), 1);
    }

    static void promise65Lasts() {
        RuntimeHeap heap = withAllForms();
        heap.defineKind(-1, 0, 0, true);
        heap.newObject(1, 2);
        heap.newObject(1, 2);
        Check.same("lasts", heap.lasts(), 0);
        heap.collectYoung();
        Check.same("lasts", heap.lasts(), 1);
        heap.clear(1);
        heap.collectYoung();
        Check.same("lasts", heap.lasts(), 2);
        heap.takeLast(0);
        Check.same("lasts", heap.lasts(), 1);
    }

    static void promise66Interned() {
        RuntimeHeap heap = withAllForms();
        Check.same("interned", heap.interned(), 0);
        heap.intern(2, 2);
        heap.newText(1, 8);
        Check.same("interned", heap.interned(), 1);
        heap.intern(1, 1);
        Check.same("interned", heap.interned(), 2);
        heap.clear(2);
        Check.same("as long as it is PRESENT", heap.interned(), 2);
        heap.collectYoung();
        Check.same("interned", heap.interned(), 1);
        RuntimeHeap other = new RuntimeHeap();
        other.newText(0, 0);
        other.intern(0, 0);
        Check.same("the only object", other.interned(), 1);
    }

    static void promise67YoungCollections() {
        RuntimeHeap heap = withAllForms();
        heap.collectYoung();
        heap.collectYoung();
        heap.collectAll(false);
        Check.same("youngCollections", heap.youngCollections(), 2);
        for (int i = 0; i < 6; i++) {
            heap.newRow(7, 40);
            heap.toGlobal(i, 7);
        }
        heap.newRow(7, 30);
        Check.same("words", heap.youngWords() + heap.oldWords(), 326);
        heap.collectYoung();
        Check.same("a full one instead does not count", heap.youngCollections(), 2);
    }

    static void promise68FullCollections() {
        RuntimeHeap heap = withAllForms();
        heap.collectAll(false);
        heap.collectAll(true);
        heap.collectYoung();
        Check.same("also PRESSED", heap.fullCollections(), 2);
        heap.beginMarking();
        heap.step(50);
        Check.same("also at the end of marking", heap.fullCollections(), 3);
        for (int i = 0; i < 6; i++) {
            heap.newRow(7, 40);
            heap.toGlobal(i, 7);
        }
        heap.newRow(7, 30);
        heap.collectYoung();
        Check.same("also instead of a young one", heap.fullCollections(), 4);
    }

    static void promise69IsMarking() {
        RuntimeHeap heap = withAllForms();
        Check.no("at first", heap.isMarking());
        heap.beginMarking();
        Check.yes("on", heap.isMarking());
        heap.step(6);
        Check.yes("one is left", heap.isMarking());
        heap.step(6);
        Check.no("off", heap.isMarking());
    }

    static void promise70Tenure() {
        RuntimeHeap heap = new RuntimeHeap();
        Check.same("at first", heap.tenure(), 2);
        for (int age = 1; age <= 4; age++) {
            heap.setTenure(age);
            Check.same("tenure", heap.tenure(), age);
        }
        Check.badArgument(heap, "setTenure(5)", () -> heap.setTenure(5));
        Check.same("tenure", heap.tenure(), 4);
    }

    static void promise71ImageLength() {
        RuntimeHeap heap = withAllForms();
        Check.same("none, at first", heap.imageLength(), 0);
        heap.writeImage(0);
        Check.same("of a PLAIN", heap.imageLength(), 1 + 2 + 3 + 5);
        heap.writeImage(2);
        Check.same("of a TEXT", heap.imageLength(), 12);
        heap.setImage(0, 0);
        Check.same("well formed or not", heap.imageLength(), 12);
    }

    static void promise72ImageAt() {
        RuntimeHeap heap = withAllForms();
        Check.noIndex(heap, "none", () -> heap.imageAt(0));
        heap.writeImage(1);
        Check.same("how many", heap.imageAt(0), 1);
        Check.same("a ROW", heap.imageAt(1), 1);
        Check.same("its length", heap.imageAt(2), 4);
        Check.same("its last place", heap.imageAt(6), 0);
        Check.noIndex(heap, "place 7", () -> heap.imageAt(7));
        Check.noIndex(heap, "place -1", () -> heap.imageAt(-1));
    }
}
