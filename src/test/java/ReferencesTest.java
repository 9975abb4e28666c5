/** Promises 22 to 29: references that do not hold, rows of what has gone, tables. */
final class ReferencesTest {
    public static void main(String[] args) {
        Check.runAll(ReferencesTest.class);
    }

    /** Slots: 0 a ROW, 1 a WEAK, 2 a SOFT, 3 a PHANTOM of it, 4 a TEXT. */
    private static RuntimeHeap withReferences() {
        RuntimeHeap heap = new RuntimeHeap();
        heap.newRow(0, 1);
        heap.newWeak(1, 0, true);
        heap.newSoft(2, 0, true);
        heap.newPhantom(3, 0);
        heap.newText(4, 1);
        return heap;
    }

    static void promise22Read() {
        RuntimeHeap heap = withReferences();
        Check.same("read of a WEAK", heap.read(5, 1), 0);
        Check.same("slot", heap.numberOf(5), 0);
        Check.same("read of a SOFT", heap.read(6, 2), 0);
        Check.same("slot", heap.numberOf(6), 0);
        Check.noIndex(heap, "to", () -> heap.read(8, 0));
        Check.noIndex(heap, "reference", () -> heap.read(0, -1));
        Check.badArgument(heap, "a PHANTOM", () -> heap.read(5, 3));
        Check.badArgument(heap, "a TEXT", () -> heap.read(5, 4));
        Check.badArgument(heap, "nothing", () -> heap.read(5, 7));
        heap.forget(1);
        Check.same("read of a cleared one", heap.read(5, 1), -1);
        Check.same("slot", heap.numberOf(5), -1);
    }

    static void promise22ReadWhileMarking() {
        RuntimeHeap heap = new RuntimeHeap();
        heap.newRow(0, 1);
        heap.newRow(1, 0);
        heap.store(0, 0, 1);
        heap.newWeak(2, 0, false);
        heap.newWeak(3, 0, true);
        heap.clear(0);
        heap.clear(1);
        heap.beginMarking();
        Check.same("read", heap.read(4, 3), 0);
        heap.clear(4);
        Check.same("what is READ, and what it holds, is TO KEEP", heap.step(50), 4);
        Check.yes("present", heap.isPresent(0));
        Check.yes("present", heap.isPresent(1));
        Check.no("cleared", heap.isCleared(3));
        heap.beginMarking();
        Check.same("not READ in this marking", heap.step(50), 2);
        Check.no("present", heap.isPresent(0));
        Check.yes("cleared", heap.isCleared(3));
    }

    static void promise22ReadHoldsByThePicture() {
        RuntimeHeap heap = new RuntimeHeap();
        heap.newRow(0, 1);
        heap.newRow(1, 0);
        heap.newTable(2, 1);
        heap.newRow(3, 0);
        heap.put(2, 0, 3);
        heap.store(0, 0, 1);
        heap.newWeak(4, 0, false);
        heap.clear(0);
        heap.clear(1);
        heap.clear(3);
        heap.beginMarking();
        heap.read(0, 4);
        heap.store(0, 0, 7);
        heap.remove(2, 0);
        heap.clear(0);
        Check.same("TABLE, WEAK, the key, what it held, its value", heap.step(50), 5);
        Check.same("objects", heap.objects(), 5);
    }

    static void promise22ReadHoldsThroughASoft() {
        RuntimeHeap heap = new RuntimeHeap();
        heap.newRow(0, 1);
        heap.newRow(1, 0);
        heap.newSoft(1, 1, false);
        heap.store(0, 0, 1);
        heap.clear(1);
        heap.newWeak(2, 0, false);
        heap.clear(0);
        heap.beginMarking();
        heap.read(0, 2);
        heap.clear(0);
        Check.same("WEAK, ROW, SOFT and its referent", heap.step(50), 4);
    }

    static void promise22ReadOfAnEarlierNewOne() {
        RuntimeHeap heap = new RuntimeHeap();
        heap.beginMarking();
        heap.newRow(0, 0);
        heap.newWeak(1, 0, false);
        heap.step(1);
        heap.clear(0);
        heap.beginMarking();
        heap.read(0, 1);
        Check.same("it was NEW in the other marking", heap.step(50), 2);
    }

    static void promise22ReadOfNewOnes() {
        RuntimeHeap heap = new RuntimeHeap();
        heap.newRow(0, 0);
        heap.beginMarking();
        heap.newRow(1, 0);
        heap.newWeak(2, 1, false);
        heap.read(3, 2);
        Check.same("NEW ones are not TO KEEP", heap.step(50), 1);
        Check.same("but kept", heap.objects(), 3);
    }

    static void promise23RefersTo() {
        RuntimeHeap heap = withReferences();
        Check.yes("WEAK", heap.refersTo(1, 0));
        Check.yes("SOFT", heap.refersTo(2, 0));
        Check.yes("PHANTOM", heap.refersTo(3, 0));
        Check.no("another one", heap.refersTo(1, 4));
        Check.no("itself", heap.refersTo(1, 1));
        Check.no("nothing", heap.refersTo(1, 7));
        heap.forget(1);
        Check.no("cleared", heap.refersTo(1, 0));
        Check.no("cleared, and nothing", heap.refersTo(1, 7));
        Check.noIndex(heap, "reference", () -> heap.refersTo(8, 0));
        Check.noIndex(heap, "slot", () -> heap.refersTo(0, 8));
        Check.badArgument(heap, "a ROW", () -> heap.refersTo(0, 0));
        Check.badArgument(heap, "a TEXT", () -> heap.refersTo(4, 0));
        Check.badArgument(heap, "nothing", () -> heap.refersTo(7, 0));
        heap.newTable(5, 1);
        Check.badArgument(heap, "a TABLE", () -> heap.refersTo(5, 0));
    }

    static void promise23DoesNotCountAsReading() {
        RuntimeHeap heap = withReferences();
        heap.clear(0);
        heap.clear(2);
        heap.collectAll(true);
        RuntimeHeap other = new RuntimeHeap();
        other.newRow(0, 0);
        other.newWeak(1, 0, false);
        other.clear(0);
        other.beginMarking();
        Check.no("refersTo", other.refersTo(1, 1));
        Check.same("only the WEAK is TO KEEP", other.step(50), 1);
        Check.no("present", other.isPresent(0));
    }

    static void promise24Forget() {
        RuntimeHeap heap = withReferences();
        Check.yes("WEAK", heap.forget(1));
        Check.yes("SOFT", heap.forget(2));
        Check.yes("PHANTOM", heap.forget(3));
        Check.no("again", heap.forget(1));
        Check.yes("cleared", heap.isCleared(1));
        Check.yes("cleared", heap.isCleared(2));
        Check.yes("cleared", heap.isCleared(3));
        Check.same("none is in the QUEUE", heap.queued(), 0);
        heap.clear(0);
        heap.collectAll(true);
        Check.same("nor does a collection put one there", heap.queued(), 0);
        Check.noIndex(heap, "slot 8", () -> heap.forget(8));
        Check.noIndex(heap, "slot -1", () -> heap.forget(-1));
        Check.badArgument(heap, "a TEXT", () -> heap.forget(4));
        Check.badArgument(heap, "nothing", () -> heap.forget(7));
        heap.newTable(5, 1);
        Check.badArgument(heap, "a TABLE", () -> heap.forget(5));
    }

    static void promise25Poll() {
        RuntimeHeap heap = withReferences();
        heap.newWeak(5, 0, false);
        Check.same("empty", heap.poll(4), -1);
        Check.same("the slot stays", heap.numberOf(4), 4);
        heap.clear(0);
        heap.clear(1);
        heap.collectAll(true);
        Check.same("one that nothing holds is removed, one is not QUEUED", heap.queued(), 2);
        Check.same("the first one", heap.poll(4), 2);
        Check.same("slot", heap.numberOf(4), 2);
        Check.same("the second one", heap.poll(7), 3);
        Check.same("empty", heap.poll(7), -1);
        Check.same("the slot stays", heap.numberOf(7), 3);
        Check.noIndex(heap, "slot 8", () -> heap.poll(8));
        Check.noIndex(heap, "slot -1", () -> heap.poll(-1));
    }

    static void promise25QueueHolds() {
        RuntimeHeap heap = new RuntimeHeap();
        heap.newRow(0, 0);
        heap.newWeak(1, 0, true);
        heap.newRow(0, 0);
        heap.newWeak(2, 0, true);
        heap.clear(0);
        heap.collectAll(false);
        heap.clear(1);
        heap.clear(2);
        Check.same("what is in the QUEUE is held", heap.collectAll(true), 0);
        Check.same("by rising numbers", heap.poll(3), 1);
        heap.clear(3);
        Check.same("what was taken out is not", heap.collectAll(false), 1);
        Check.same("the last one", heap.poll(3), 3);
    }

    static void promise26TakeLast() {
        RuntimeHeap heap = new RuntimeHeap();
        heap.defineKind(-1, 1, 0, true);
        heap.newObject(0, 0);
        heap.newObject(1, 0);
        heap.newRow(2, 0);
        heap.store(0, 0, 2);
        heap.clear(2);
        Check.same("empty", heap.takeLast(1), -1);
        Check.same("the slot stays", heap.numberOf(1), 1);
        heap.clear(0);
        heap.clear(1);
        Check.same("none is removed", heap.collectAll(false), 0);
        Check.same("lasts", heap.lasts(), 2);
        Check.same("the LAST ROW holds them", heap.collectAll(false), 0);
        Check.same("by rising numbers", heap.takeLast(5), 0);
        Check.yes("FINALIZED", heap.isFinalized(5));
        Check.same("the second one", heap.takeLast(5), 1);
        Check.same("the first one goes now, with what it holds", heap.collectAll(false), 2);
        Check.same("once only", heap.lasts(), 0);
        Check.noIndex(heap, "slot 8", () -> heap.takeLast(8));
        Check.noIndex(heap, "slot -1", () -> heap.takeLast(-1));
    }

    /** Slots: 0 a TABLE for two entries, 1 to 3 ROWs. */
    private static RuntimeHeap withTable() {
        RuntimeHeap heap = new RuntimeHeap();
        heap.newTable(0, 2);
        for (int i = 1; i <= 3; i++) {
            heap.newRow(i, i);
        }
        return heap;
    }

    static void promise27Put() {
        RuntimeHeap heap = withTable();
        Check.yes("a first entry", heap.put(0, 1, 2));
        Check.yes("its value anew", heap.put(0, 1, 3));
        Check.same("entries", heap.entriesOf(0), 1);
        Check.same("get", heap.get(7, 0, 1), 3);
        Check.yes("a second one, without value", heap.put(0, 2, 6));
        Check.same("entries", heap.entriesOf(0), 2);
        Check.no("a third one", heap.put(0, 3, 1));
        Check.same("entries", heap.entriesOf(0), 2);
        Check.yes("a full TABLE takes a value for its key", heap.put(0, 2, 2));
        Check.same("get", heap.get(7, 0, 2), 2);
        heap.clear(7);
        Check.noIndex(heap, "table", () -> heap.put(8, 7, 1));
        Check.noIndex(heap, "key", () -> heap.put(7, -1, 1));
        Check.noIndex(heap, "value", () -> heap.put(7, 7, 8));
        Check.badArgument(heap, "a ROW", () -> heap.put(1, 1, 1));
        Check.badArgument(heap, "nothing", () -> heap.put(7, 1, 1));
        Check.badArgument(heap, "no key", () -> heap.put(0, 7, 1));
        Check.same("entries", heap.entriesOf(0), 2);
    }

    static void promise27EntriesLastAsLongAsTheirKeys() {
        RuntimeHeap heap = withTable();
        heap.put(0, 1, 2);
        heap.put(0, 2, 3);
        heap.clear(2);
        heap.clear(3);
        Check.same("a value may be a key", heap.collectAll(false), 0);
        Check.same("entries", heap.entriesOf(0), 2);
        heap.clear(1);
        Check.same("all hung on one key", heap.collectAll(false), 3);
        Check.same("entries", heap.entriesOf(0), 0);
        Check.yes("there is place again", heap.put(0, 0, 0));
        Check.yes("for two", withTable().put(0, 3, 0));
    }

    static void promise27KeyHeldByItsOwnValue() {
        RuntimeHeap heap = withTable();
        heap.store(2, 0, 1);
        heap.put(0, 1, 2);
        heap.clear(1);
        heap.clear(2);
        Check.same("a value does not hold its key", heap.collectAll(false), 2);
        Check.same("entries", heap.entriesOf(0), 0);
    }

    static void promise27VanishingEntriesTouchNothingElse() {
        RuntimeHeap heap = new RuntimeHeap();
        heap.newText(0, 4);
        heap.newTable(1, 1);
        heap.newText(2, 4);
        for (int i = 0; i < 4; i++) {
            heap.setByte(0, i, 200 + i);
            heap.setByte(2, i, 210 + i);
        }
        heap.newRow(3, 0);
        heap.put(1, 3, 3);
        heap.clear(3);
        heap.collectAll(false);
        Check.same("entries", heap.entriesOf(1), 0);
        for (int i = 0; i < 4; i++) {
            Check.same("a byte ahead of it", heap.getByte(0, i), 200 + i);
            Check.same("a byte behind it", heap.getByte(2, i), 210 + i);
        }
    }

    static void promise28Get() {
        RuntimeHeap heap = withTable();
        heap.put(0, 1, 2);
        heap.put(0, 2, 7);
        Check.same("get", heap.get(5, 0, 1), 2);
        Check.same("slot", heap.numberOf(5), 2);
        Check.same("an entry without value", heap.get(5, 0, 2), -1);
        Check.same("slot", heap.numberOf(5), -1);
        heap.get(5, 0, 1);
        Check.same("no entry", heap.get(5, 0, 3), -1);
        Check.same("slot", heap.numberOf(5), -1);
        Check.noIndex(heap, "to", () -> heap.get(8, 7, 7));
        Check.noIndex(heap, "table", () -> heap.get(7, 8, 7));
        Check.noIndex(heap, "key", () -> heap.get(7, 7, 8));
        Check.badArgument(heap, "a ROW", () -> heap.get(5, 1, 1));
        Check.badArgument(heap, "nothing", () -> heap.get(5, 7, 1));
        Check.badArgument(heap, "no key", () -> heap.get(5, 0, 7));
    }

    static void promise29Remove() {
        RuntimeHeap heap = withTable();
        heap.put(0, 1, 2);
        heap.put(0, 2, 3);
        Check.yes("remove", heap.remove(0, 1));
        Check.no("again", heap.remove(0, 1));
        Check.no("a key without entry", heap.remove(0, 3));
        Check.same("entries", heap.entriesOf(0), 1);
        Check.same("the other one stays", heap.get(5, 0, 2), 3);
        Check.same("it is gone", heap.get(5, 0, 1), -1);
        Check.yes("there is place again", heap.put(0, 3, 3));
        Check.no("for one", heap.put(0, 1, 3));
        Check.noIndex(heap, "table", () -> heap.remove(8, 7));
        Check.noIndex(heap, "key", () -> heap.remove(7, -1));
        Check.badArgument(heap, "a ROW", () -> heap.remove(1, 1));
        Check.badArgument(heap, "nothing", () -> heap.remove(7, 1));
        Check.badArgument(heap, "no key", () -> heap.remove(0, 7));
        Check.same("entries", heap.entriesOf(0), 2);
    }
}
