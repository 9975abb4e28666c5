/** Promises 35 to 39: collections, and marking in steps. */
final class CollectingTest {
    public static void main(String[] args) {
        Check.runAll(CollectingTest.class);
    }

    static void promise35SetTenure() {
        RuntimeHeap heap = new RuntimeHeap();
        Check.same("what it was", heap.setTenure(4), 2);
        Check.same("what it was", heap.setTenure(1), 4);
        Check.badArgument(heap, "setTenure(0)", () -> heap.setTenure(0));
        Check.badArgument(heap, "setTenure(5)", () -> heap.setTenure(5));
        heap.newRow(0, 0);
        heap.collectYoung();
        Check.yes("OLD at the age 1", heap.isOld(0));
        heap.setTenure(4);
        heap.newRow(1, 0);
        for (int age = 1; age < 4; age++) {
            heap.collectYoung();
            Check.same("age", heap.ageOf(1), age);
            Check.no("OLD", heap.isOld(1));
        }
        heap.setTenure(2);
        Check.no("not by being set", heap.isOld(1));
        heap.collectYoung();
        Check.yes("OLD", heap.isOld(1));
        Check.same("age", heap.ageOf(1), 4);
        Check.same("that of an OLD one stays", heap.ageOf(0), 1);
    }

    static void promise36CollectYoung() {
        RuntimeHeap heap = new RuntimeHeap();
        heap.newRow(0, 40);
        heap.newRow(1, 1);
        heap.newRow(2, 0);
        heap.store(0, 0, 2);
        heap.newRow(3, 0);
        heap.clear(0);
        heap.clear(2);
        heap.clear(3);
        Check.same("OLD ones hold, reached or not", heap.collectYoung(), 1);
        Check.yes("held by an OLD one", heap.isPresent(2));
        Check.no("held by none", heap.isPresent(3));
        Check.same("young collections", heap.youngCollections(), 1);
        Check.same("full collections", heap.fullCollections(), 0);
        Check.same("age", heap.ageOf(1), 1);
        heap.beginMarking();
        Check.badState(heap, "marking is on", heap::collectYoung);
    }

    static void promise36FullInsteadOfYoung() {
        RuntimeHeap heap = new RuntimeHeap();
        for (int i = 0; i < 7; i++) {
            heap.newRow(i, 40);
        }
        heap.newRow(7, 5);
        heap.toGlobal(0, 7);
        heap.newRow(7, 17);
        Check.same("words", heap.youngWords() + heap.oldWords(), 320);
        heap.clear(0);
        Check.same("320 words: a young one", heap.collectYoung(), 0);
        Check.same("young collections", heap.youngCollections(), 1);
        heap.newRow(0, 0);
        heap.newSoft(0, 0, false);
        heap.newRow(0, 0);
        Check.same("more: a full one", heap.collectYoung(), 3);
        Check.same("young collections", heap.youngCollections(), 1);
        Check.same("full collections", heap.fullCollections(), 1);
        Check.yes("all that fit are OLD", heap.isOld(7));
        Check.same("the age stays", heap.ageOf(7), 1);
    }

    static void promise36FullInsteadOfYoungAt321() {
        RuntimeHeap heap = new RuntimeHeap();
        for (int i = 0; i < 7; i++) {
            heap.newRow(i, 40);
        }
        heap.newRow(7, 0);
        heap.newSoft(7, 7, false);
        heap.toGlobal(0, 7);
        heap.newRow(7, 20);
        Check.same("words", heap.youngWords() + heap.oldWords(), 321);
        Check.same("collectYoung", heap.collectYoung(), 0);
        Check.same("young collections", heap.youngCollections(), 0);
        Check.same("full collections", heap.fullCollections(), 1);
        heap.fromGlobal(7, 0);
        Check.no("not PRESSED", heap.isCleared(7));
    }

    static void promise36FinalOnes() {
        RuntimeHeap heap = new RuntimeHeap();
        heap.defineKind(-1, 1, 0, false);
        heap.defineKind(0, 0, 0, true);
        heap.defineKind(1, 0, 0, false);
        heap.newObject(0, 0);
        heap.newObject(1, 1);
        heap.newObject(2, 2);
        heap.store(2, 0, 0);
        heap.newWeak(3, 0, false);
        heap.newPhantom(4, 0);
        heap.clear(0);
        heap.clear(1);
        heap.clear(2);
        Check.same("FINAL ones, and what they hold, are kept", heap.collectYoung(), 0);
        Check.same("lasts", heap.lasts(), 2);
        Check.yes("not STRONG: a WEAK is cleared", heap.isCleared(3));
        Check.no("KEPT: a PHANTOM is not", heap.isCleared(4));
        Check.same("by rising numbers", heap.takeLast(0), 1);
        Check.same("by rising numbers", heap.takeLast(1), 2);
        heap.clear(1);
        heap.clear(0);
        Check.same("the second time they go", heap.collectYoung(), 3);
        Check.yes("a PHANTOM is cleared", heap.isCleared(4));
        Check.same("it is QUEUED, the WEAK is not", heap.queued(), 1);
    }

    static void promise37CollectAll() {
        RuntimeHeap heap = new RuntimeHeap();
        heap.newRow(0, 40);
        heap.newRow(1, 0);
        heap.store(0, 0, 1);
        heap.clear(0);
        heap.clear(1);
        heap.newRow(2, 3);
        Check.same("OLD ones do not hold", heap.collectAll(false), 2);
        Check.yes("each becomes OLD", heap.isOld(2));
        Check.same("the age stays", heap.ageOf(2), 0);
        Check.same("full collections", heap.fullCollections(), 1);
        heap.newRow(3, 0);
        heap.newSoft(3, 3, false);
        Check.same("not PRESSED", heap.collectAll(false), 0);
        Check.same("PRESSED", heap.collectAll(true), 1);
        Check.same("full collections", heap.fullCollections(), 3);
        Check.same("young collections", heap.youngCollections(), 0);
        heap.beginMarking();
        Check.badState(heap, "marking is on", () -> heap.collectAll(false));
        Check.badState(heap, "marking is on", () -> heap.collectAll(true));
    }

    static void promise37WhoBecomesOld() {
        RuntimeHeap heap = new RuntimeHeap();
        for (int i = 0; i < 7; i++) {
            heap.newRow(i, 40);
        }
        heap.toGlobal(0, 0);
        heap.newRow(0, 18);
        heap.toGlobal(1, 0);
        heap.newRow(0, 5);
        heap.newRow(7, 4);
        heap.collectAll(false);
        Check.no("7 words are too many behind 314", heap.isOld(0));
        Check.yes("6 words are not", heap.isOld(7));
        Check.same("old words", heap.oldWords(), 320);
        Check.same("young words", heap.youngWords(), 7);
    }

    static void promise37FinalOneHoldsItsReferences() {
        RuntimeHeap heap = new RuntimeHeap();
        heap.defineKind(-1, 1, 0, true);
        heap.newObject(0, 0);
        heap.newRow(1, 0);
        heap.newSoft(2, 1, true);
        heap.store(0, 0, 2);
        heap.clear(0);
        heap.clear(1);
        heap.clear(2);
        Check.same("a SOFT that is KEPT holds, not PRESSED", heap.collectAll(false), 0);
        Check.same("but it is cleared, its referent not being STRONG", heap.queued(), 1);
        heap.poll(2);
        Check.yes("cleared", heap.isCleared(2));
        Check.same("the ROW goes the next time", heap.collectAll(false), 1);
    }

    static void promise37TablesOfTheKept() {
        RuntimeHeap heap = new RuntimeHeap();
        heap.defineKind(-1, 2, 0, true);
        heap.newObject(0, 0);
        heap.newTable(1, 2);
        heap.newRow(2, 0);
        heap.newRow(3, 0);
        heap.put(1, 2, 3);
        heap.put(1, 3, 3);
        heap.store(0, 0, 2);
        heap.clear(0);
        heap.clear(2);
        heap.clear(3);
        Check.same("a key that is KEPT", heap.collectAll(false), 0);
        Check.same("entries", heap.entriesOf(1), 2);
        heap.takeLast(0);
        heap.clear(0);
        Check.same("it goes with key and value", heap.collectAll(true), 3);
        Check.same("entries", heap.entriesOf(1), 0);
    }

    static void promise37QueueByRisingNumbers() {
        RuntimeHeap heap = new RuntimeHeap();
        heap.newRow(0, 0);
        heap.newPhantom(1, 0);
        heap.newSoft(2, 0, true);
        heap.newWeak(3, 0, true);
        heap.newWeak(4, 0, false);
        heap.clear(0);
        heap.collectAll(true);
        Check.same("queued", heap.queued(), 3);
        Check.same("PHANTOM", heap.poll(0), 1);
        Check.same("SOFT", heap.poll(0), 2);
        Check.same("WEAK", heap.poll(0), 3);
        heap.newRow(0, 0);
        heap.newPhantom(5, 0);
        heap.clear(0);
        heap.collectAll(true);
        Check.same("only those that are cleared now", heap.queued(), 1);
    }

    static void promise38BeginMarking() {
        RuntimeHeap heap = new RuntimeHeap();
        heap.defineKind(-1, 0, 0, true);
        heap.newRow(0, 1);
        heap.assign(1, 0);
        heap.toGlobal(3, 0);
        heap.newRow(2, 0);
        heap.newRow(4, 0);
        heap.store(0, 0, 4);
        heap.clear(4);
        heap.newObject(5, 0);
        heap.newWeak(6, 5, true);
        heap.clear(5);
        heap.collectAll(false);
        heap.clear(6);
        heap.push(1);
        Check.same("ROW, ROW, the QUEUE, the LAST ROW, once each", heap.beginMarking(), 4);
        Check.yes("marking", heap.isMarking());
        Check.badState(heap, "again", heap::beginMarking);
        Check.same("with what they hold", heap.step(50), 5);
        Check.same("nothing", new RuntimeHeap().beginMarking(), 0);
    }

    static void promise38PictureStays() {
        RuntimeHeap heap = new RuntimeHeap();
        heap.newRow(0, 1);
        heap.newRow(1, 0);
        heap.store(0, 0, 1);
        heap.newRow(2, 0);
        heap.newSoft(3, 2, false);
        heap.newTable(4, 1);
        heap.newRow(5, 0);
        heap.put(4, 0, 5);
        heap.clear(1);
        heap.clear(2);
        heap.clear(5);
        Check.same("roots hold", heap.beginMarking(), 3);
        heap.store(0, 0, 7);
        heap.forget(3);
        heap.remove(4, 0);
        heap.newRow(6, 0);
        for (int slot = 0; slot < 8; slot++) {
            heap.clear(slot);
        }
        Check.same("all that was reached is TO KEEP", heap.step(50), 6);
        Check.same("nothing is removed", heap.objects(), 7);
        Check.same("the next one removes all", heap.collectAll(false), 7);
    }

    static void promise39Step() {
        RuntimeHeap heap = new RuntimeHeap();
        Check.badArgument(heap, "step(0), ahead of the state", () -> heap.step(0));
        Check.badArgument(heap, "step(51), ahead of the state", () -> heap.step(51));
        Check.badState(heap, "marking is off", () -> heap.step(1));
        for (int i = 0; i < 4; i++) {
            heap.newRow(i, 0);
        }
        heap.newRow(7, 0);
        heap.clear(7);
        heap.beginMarking();
        Check.badArgument(heap, "step(-1)", () -> heap.step(-1));
        Check.same("step(3)", heap.step(3), 3);
        Check.yes("one is left", heap.isMarking());
        Check.same("full collections", heap.fullCollections(), 0);
        Check.same("step(1)", heap.step(1), 1);
        Check.no("none is left", heap.isMarking());
        Check.same("full collections", heap.fullCollections(), 1);
        Check.same("objects", heap.objects(), 4);
        Check.yes("all become OLD", heap.isOld(0));
        Check.badState(heap, "marking is off", () -> heap.step(1));
        heap.beginMarking();
        heap.step(3);
        Check.same("all that are left", heap.step(50), 1);
        Check.no("none is left", heap.isMarking());
    }

    static void promise39NoneEver() {
        RuntimeHeap heap = new RuntimeHeap();
        heap.beginMarking();
        Check.yes("it is on till a step", heap.isMarking());
        heap.newRow(0, 0);
        heap.newRow(0, 0);
        Check.same("none is TO KEEP", heap.step(1), 0);
        Check.no("marking", heap.isMarking());
        Check.same("NEW ones are STRONG", heap.objects(), 2);
    }

    static void promise39EndOfMarking() {
        RuntimeHeap heap = new RuntimeHeap();
        heap.defineKind(-1, 0, 0, true);
        heap.newObject(0, 0);
        heap.newObject(1, 0);
        heap.clear(0);
        heap.newRow(2, 0);
        heap.newWeak(3, 2, true);
        heap.newSoft(4, 2, true);
        heap.newRow(5, 0);
        heap.newWeak(6, 5, true);
        heap.clear(5);
        heap.beginMarking();
        heap.clear(1);
        heap.clear(2);
        heap.newObject(0, 0);
        heap.clear(0);
        heap.step(50);
        Check.same("only what was not TO KEEP nor NEW", heap.lasts(), 1);
        Check.same("it", heap.takeLast(0), 0);
        Check.no("its referent was TO KEEP", heap.isCleared(3));
        Check.no("its referent was TO KEEP", heap.isCleared(4));
        Check.yes("its referent was not", heap.isCleared(6));
        Check.same("queued", heap.queued(), 1);
        Check.same("removed", heap.made() - heap.objects(), 1);
    }
}
