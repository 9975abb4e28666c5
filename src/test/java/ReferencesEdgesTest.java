/** Boundary cases of the promises 22 to 29: references that do not hold, the QUEUE and the LAST ROW, tables. */
final class ReferencesEdgesTest {
    // What a slot holds in SORTS: one object of each form; nothing in slot 7.
    private static final int PLAIN = 0;
    private static final int ROW = 1;
    private static final int TEXT = 2;
    private static final int WEAK = 3;
    private static final int SOFT = 4;
    private static final int PHANTOM = 5;
    private static final int TABLE = 6;
    private static final int NOTHING = 7;

    private static final Edge.Act SORTS = ReferencesEdgesTest::sorts;

    public static void main(String[] args) {
        Check.runAll(ReferencesEdgesTest.class);
    }

    /** One of each form; the three references refer to the ROW. */
    private static void sorts(RuntimeHeap heap) {
        heap.defineKind(-1, 1, 1, true);
        heap.newObject(PLAIN, 0);
        heap.newRow(ROW, 4);
        heap.newText(TEXT, 5);
        heap.newWeak(WEAK, ROW, true);
        heap.newSoft(SOFT, ROW, true);
        heap.newPhantom(PHANTOM, ROW);
        heap.newTable(TABLE, 3);
    }

    private static void putRow(RuntimeHeap heap, int slot) {
        heap.newRow(slot, 1);
    }

    private static void putWeak(RuntimeHeap heap, int slot) {
        heap.newRow(slot, 0);
        heap.newWeak(slot, slot, true);
    }

    private static void putTable(RuntimeHeap heap, int slot) {
        heap.newTable(slot, 2);
    }

    private static void clearAll(RuntimeHeap heap) {
        for (int slot = 0; slot < heap.slots(); slot++) {
            heap.clear(slot);
        }
    }

    /** So many in the QUEUE, by rising numbers: 1, 2 and so on; nothing else is there. */
    private static void queue(RuntimeHeap heap, int references) {
        heap.newRow(0, 0);
        for (int i = 0; i < references; i++) {
            heap.newPhantom(1, 0);
            heap.toGlobal(i, 1);
        }
        clearAll(heap);
        heap.collectAll(false);
        heap.push(1);
        for (int i = 0; i < references; i++) {
            heap.toGlobal(i, 0);
        }
        heap.pop(0);
    }

    /** So many in the LAST ROW, by rising numbers: 0, 1 and so on. */
    private static void lastRow(RuntimeHeap heap, int objects) {
        heap.defineKind(-1, 0, 0, true);
        for (int i = 0; i < objects; i++) {
            heap.newObject(0, 0);
        }
        heap.clear(0);
        heap.collectAll(false);
    }

    /** A full TABLE of that capacity in slot 0; its keys, each its own value, are in order in the ROW in slot 1. */
    private static void fullTable(RuntimeHeap heap, int capacity) {
        heap.newTable(0, capacity);
        heap.newRow(1, 16);
        for (int i = 0; i < capacity; i++) {
            heap.newText(2, 0);
            heap.store(1, i, 2);
            Check.yes("put " + i, heap.put(0, 2, 2));
        }
        heap.clear(2);
    }

    // ---- promise 22

    static void promise22ToIsASlot() {
        Edge.slot("read: to", Edge.NEW, (heap, to) -> putWeak(heap, 1), (heap, to) -> heap.read(to, 1));
    }

    static void promise22ReferenceIsASlot() {
        Edge.slot("read: reference", Edge.NEW, ReferencesEdgesTest::putWeak, (heap, slot) -> heap.read(1, slot));
    }

    static void promise22ReferenceIsNoWeakAndNoSoft() {
        for (int reference : new int[] {PLAIN, ROW, TEXT, PHANTOM, TABLE, NOTHING}) {
            Edge.badArgument("reference " + reference, SORTS, heap -> heap.read(NOTHING, reference));
        }
    }

    static void promise22SlotsAreLookedAtFirst() {
        Edge.noIndex("to 8, reference holds nothing", SORTS, heap -> heap.read(8, NOTHING));
        Edge.noIndex("to -1, reference holds a PHANTOM", SORTS, heap -> heap.read(-1, PHANTOM));
        Edge.noIndex("reference 8", SORTS, heap -> heap.read(0, 8));
    }

    static void promise22AClearedOneGivesNothing() {
        for (int reference : new int[] {WEAK, SOFT}) {
            Edge.Act scene = Edge.both(SORTS, heap -> heap.forget(reference));
            Edge.answers("its number", -1, scene, heap -> heap.read(TEXT, reference));
            Edge.answers("what to holds then", -1, Edge.both(scene, heap -> heap.read(TEXT, reference)),
                heap -> heap.numberOf(TEXT));
        }
    }

    static void promise22WeakAndSoftGiveTheirReferent() {
        Edge.answers("WEAK", 1, SORTS, heap -> heap.read(NOTHING, WEAK));
        Edge.answers("SOFT", 1, SORTS, heap -> heap.read(NOTHING, SOFT));
    }

    static void promise22IntoTheSlotOfTheReference() {
        Edge.answers("its number", 1, SORTS, heap -> heap.read(WEAK, WEAK));
        Edge.answers("what to holds then", 1, Edge.both(SORTS, heap -> heap.read(WEAK, WEAK)),
            heap -> heap.numberOf(WEAK));
    }

    static void promise22TheReferentIsHeldAgain() {
        RuntimeHeap heap = Edge.behind(SORTS);
        heap.clear(ROW);
        heap.clear(SOFT);
        heap.read(NOTHING, WEAK);
        heap.collectAll(true);
        Check.no("the WEAK", heap.isCleared(WEAK));
        Check.yes("its referent", heap.isPresent(1));
    }

    // ---- promise 23

    static void promise23ReferenceIsASlot() {
        Edge.slot("refersTo: reference", Edge.NEW, ReferencesEdgesTest::putWeak,
            (heap, slot) -> heap.refersTo(slot, 1));
    }

    static void promise23SlotIsASlot() {
        Edge.slot("refersTo: slot", Edge.NEW, (heap, slot) -> putWeak(heap, 1), (heap, slot) -> heap.refersTo(1, slot));
    }

    static void promise23ReferenceIsNoReference() {
        for (int reference : new int[] {PLAIN, ROW, TEXT, TABLE, NOTHING}) {
            Edge.badArgument("reference " + reference, SORTS, heap -> heap.refersTo(reference, ROW));
        }
    }

    static void promise23SlotsAreLookedAtFirst() {
        Edge.noIndex("slot 8, reference holds nothing", SORTS, heap -> heap.refersTo(NOTHING, 8));
        Edge.noIndex("slot -1, reference holds a ROW", SORTS, heap -> heap.refersTo(ROW, -1));
        Edge.noIndex("reference 8", SORTS, heap -> heap.refersTo(8, ROW));
    }

    static void promise23EachFormOfReference() {
        for (int reference : new int[] {WEAK, SOFT, PHANTOM}) {
            Edge.changesNothing("the referent", true, SORTS, heap -> heap.refersTo(reference, ROW));
            Edge.changesNothing("another one", false, SORTS, heap -> heap.refersTo(reference, TEXT));
            Edge.changesNothing("nothing", false, SORTS, heap -> heap.refersTo(reference, NOTHING));
            Edge.changesNothing("itself", false, SORTS, heap -> heap.refersTo(reference, reference));
        }
    }

    static void promise23AClearedOneDoesNotReferToNothing() {
        for (int reference : new int[] {WEAK, SOFT, PHANTOM}) {
            Edge.Act scene = Edge.both(SORTS, heap -> heap.forget(reference));
            Edge.changesNothing("nothing", false, scene, heap -> heap.refersTo(reference, NOTHING));
            Edge.changesNothing("its referent once", false, scene, heap -> heap.refersTo(reference, ROW));
        }
    }

    static void promise23DoesNotCountAsReading() {
        RuntimeHeap heap = new RuntimeHeap();
        putWeak(heap, 0);
        heap.beginMarking();
        Check.no("refersTo", heap.refersTo(0, 1));
        Check.same("only the WEAK is TO KEEP", heap.step(50), 1);
        Check.no("its referent", heap.isPresent(0));
    }

    // ---- promise 24

    static void promise24DoesNotCountAsReading() {
        RuntimeHeap heap = new RuntimeHeap();
        putWeak(heap, 0);
        heap.beginMarking();
        Check.yes("forget", heap.forget(0));
        Check.same("only the WEAK is TO KEEP", heap.step(50), 1);
        Check.no("its referent", heap.isPresent(0));
    }

    static void promise24WhatIsClearedStaysSoThoughTheReferentIsHeldAgain() {
        RuntimeHeap heap = new RuntimeHeap();
        heap.defineKind(-1, 0, 0, true);
        heap.newObject(0, 0);
        heap.newWeak(1, 0, true);
        heap.newSoft(2, 0, true);
        heap.newPhantom(3, 0);
        heap.forget(2);
        heap.clear(0);
        heap.collectAll(false);
        Check.same("handed out once more", heap.takeLast(0), 0);
        heap.forget(3);
        for (int i = 0; i < 3; i++) {
            for (int slot = 1; slot <= 3; slot++) {
                Check.yes("cleared " + slot, heap.isCleared(slot));
                Check.no("refers " + slot, heap.refersTo(slot, 0));
            }
            Check.same("read of the WEAK", heap.read(4, 1), -1);
            Check.same("read of the SOFT", heap.read(4, 2), -1);
            heap.collectAll(i == 1);
        }
        Check.same("only the WEAK was cleared by a collection", heap.queued(), 1);
    }

    static void promise24ReferenceIsASlot() {
        Edge.slot("forget", Edge.NEW, ReferencesEdgesTest::putWeak, RuntimeHeap::forget);
    }

    static void promise24ReferenceIsNoReference() {
        for (int reference : new int[] {PLAIN, ROW, TEXT, TABLE, NOTHING}) {
            Edge.badArgument("reference " + reference, SORTS, heap -> heap.forget(reference));
        }
    }

    static void promise24TheSecondTimeThereIsNoReferent() {
        for (int reference : new int[] {WEAK, SOFT, PHANTOM}) {
            Edge.answers("the first time", true, SORTS, heap -> heap.forget(reference));
            Edge.Act scene = Edge.both(SORTS, heap -> heap.forget(reference));
            Edge.answers("cleared", true, scene, heap -> heap.isCleared(reference));
            Edge.changesNothing("the second time", false, scene, heap -> heap.forget(reference));
        }
    }

    static void promise24OneThatACollectionClearedHasNoReferent() {
        RuntimeHeap heap = Edge.behind(SORTS);
        heap.clear(ROW);
        heap.collectAll(true);
        for (int reference : new int[] {WEAK, SOFT, PHANTOM}) {
            Check.no("forget of form " + reference, heap.forget(reference));
        }
        Check.same("the QUEUE stays", heap.queued(), 3);
    }

    static void promise24DoesNotComeIntoTheQueueAlsoLater() {
        RuntimeHeap heap = Edge.behind(SORTS);
        heap.forget(WEAK);
        heap.forget(SOFT);
        heap.forget(PHANTOM);
        Check.same("queued", heap.queued(), 0);
        heap.clear(ROW);
        heap.collectAll(true);
        Check.same("queued behind a collection", heap.queued(), 0);
    }

    static void promise24OnlyThisOneIsCleared() {
        RuntimeHeap heap = Edge.behind(SORTS);
        heap.forget(WEAK);
        Check.no("the SOFT", heap.isCleared(SOFT));
        Check.no("the PHANTOM", heap.isCleared(PHANTOM));
        Check.yes("the referent is PRESENT", heap.isPresent(1));
    }

    // ---- promise 25

    static void promise25ToIsASlot() {
        Edge.slot("poll", heap -> queue(heap, 1), ReferencesEdgesTest::putRow, RuntimeHeap::poll);
        Edge.noIndex("slot 8, the QUEUE is empty", Edge.NEW, heap -> heap.poll(8));
    }

    static void promise25EmptyLeavesTheSlotAsItIs() {
        Edge.changesNothing("a slot that holds something", -1, SORTS, heap -> heap.poll(ROW));
        Edge.changesNothing("a slot that holds nothing", -1, SORTS, heap -> heap.poll(NOTHING));
    }

    static void promise25TheLastOneMakesItEmpty() {
        RuntimeHeap heap = Edge.behind(scene -> queue(scene, 1));
        Check.same("queued", heap.queued(), 1);
        Check.same("the only one", heap.poll(0), 1);
        Check.same("queued", heap.queued(), 0);
        Check.same("none", heap.poll(0), -1);
        Check.same("the slot stays as it is", heap.numberOf(0), 1);
    }

    static void promise25FirstInFirstOut() {
        RuntimeHeap heap = Edge.behind(scene -> queue(scene, 7));
        for (int number = 1; number <= 7; number++) {
            Check.same("poll", heap.poll(0), number);
            Check.same("the slot", heap.numberOf(0), number);
            Check.same("queued", heap.queued(), 7 - number);
        }
        Check.same("none is left", heap.poll(0), -1);
    }

    static void promise25BehindThoseThatWait() {
        RuntimeHeap heap = Edge.behind(scene -> queue(scene, 2));
        heap.poll(0);
        putRow(heap, 1);
        heap.newPhantom(2, 1);
        int later = heap.numberOf(2);
        heap.clear(1);
        heap.collectAll(false);
        Check.same("the one that waited", heap.poll(0), 2);
        Check.same("the later one", heap.poll(0), later);
    }

    static void promise25AsManyAsThereIsRoomFor() {
        // 138 PHANTOMs of 3 words, and 2 words for the referent of the last one: 416.
        RuntimeHeap heap = new RuntimeHeap();
        int due = 0;
        while (due < 500 && heap.newRow(0, 0) >= 0 && heap.newPhantom(1, 0) >= 0) {
            due++;
            heap.clear(0);
            heap.collectAll(false);
            Check.same("queued", heap.queued(), due);
        }
        Check.same("all that have room", due, 138);
        Check.same("flaws", heap.flaws(), 0);
        for (int i = 0; i < due; i++) {
            Check.same("poll", heap.poll(1), 2 * i + 1);
        }
        Check.same("none is left", heap.poll(1), -1);
    }

    static void promise25WhatIsTakenIsHeldNoMore() {
        RuntimeHeap heap = Edge.behind(scene -> queue(scene, 1));
        Check.same("the QUEUE holds it", heap.collectAll(true), 0);
        heap.poll(0);
        heap.clear(0);
        Check.same("then nothing does", heap.collectAll(true), 1);
    }

    // ---- promise 26

    static void promise26ToIsASlot() {
        Edge.slot("takeLast", heap -> lastRow(heap, 1), ReferencesEdgesTest::putRow, RuntimeHeap::takeLast);
        Edge.noIndex("slot 8, the LAST ROW is empty", Edge.NEW, heap -> heap.takeLast(8));
    }

    static void promise26EmptyLeavesTheSlotAsItIs() {
        Edge.changesNothing("a slot that holds something", -1, SORTS, heap -> heap.takeLast(ROW));
        Edge.changesNothing("a slot that holds nothing", -1, SORTS, heap -> heap.takeLast(NOTHING));
    }

    static void promise26TheLastOneMakesItEmpty() {
        RuntimeHeap heap = Edge.behind(scene -> lastRow(scene, 1));
        Check.same("lasts", heap.lasts(), 1);
        Check.same("the only one", heap.takeLast(7), 0);
        Check.same("lasts", heap.lasts(), 0);
        Check.same("none", heap.takeLast(7), -1);
        Check.same("the slot stays as it is", heap.numberOf(7), 0);
    }

    static void promise26FirstInFirstOut() {
        RuntimeHeap heap = Edge.behind(scene -> lastRow(scene, 9));
        for (int number = 0; number < 9; number++) {
            Check.same("takeLast", heap.takeLast(0), number);
            Check.yes("FINALIZED", heap.isFinalized(0));
        }
        Check.same("none is left", heap.takeLast(0), -1);
    }

    static void promise26BehindThoseThatWait() {
        RuntimeHeap heap = Edge.behind(scene -> lastRow(scene, 2));
        heap.newObject(0, 0);
        heap.clear(0);
        heap.collectAll(false);
        for (int number = 0; number < 3; number++) {
            Check.same("takeLast", heap.takeLast(0), number);
        }
    }

    static void promise26AsManyAsThereIsRoomFor() {
        // 208 objects of 2 words: what no slot holds is FINALIZED when the next one wants room.
        RuntimeHeap heap = new RuntimeHeap();
        heap.defineKind(-1, 0, 0, true);
        while (heap.made() < 500 && heap.newObject(0, 0) >= 0) {
            heap.clear(0);
        }
        Check.same("lasts", heap.lasts(), 208);
        Check.same("flaws", heap.flaws(), 0);
        for (int number = 0; number < 208; number++) {
            Check.same("takeLast", heap.takeLast(0), number);
        }
        Check.same("none is left", heap.takeLast(0), -1);
    }

    static void promise26HandedOutOnlyOnce() {
        RuntimeHeap heap = Edge.behind(scene -> lastRow(scene, 1));
        Check.same("the LAST ROW holds it", heap.collectAll(true), 0);
        heap.takeLast(0);
        heap.clear(0);
        Check.same("then it goes", heap.collectAll(true), 1);
        Check.same("lasts", heap.lasts(), 0);
    }

    // ---- promise 27

    static void promise27TableIsASlot() {
        Edge.slot("put: table", Edge.NEW, ReferencesEdgesTest::putTable, (heap, table) -> heap.put(table, table, 1));
    }

    static void promise27KeyIsASlot() {
        Edge.slot("put: key", Edge.NEW, (heap, key) -> {
            putRow(heap, key);
            putTable(heap, 1);
        }, (heap, key) -> heap.put(1, key, 1));
    }

    static void promise27ValueIsASlot() {
        Edge.slot("put: value", Edge.NEW, (heap, value) -> putTable(heap, 1), (heap, value) -> heap.put(1, 1, value));
    }

    static void promise27TableHoldsNoTable() {
        for (int table : new int[] {PLAIN, ROW, TEXT, WEAK, SOFT, PHANTOM, NOTHING}) {
            Edge.badArgument("table " + table, SORTS, heap -> heap.put(table, ROW, ROW));
        }
    }

    static void promise27KeyHoldsNothing() {
        Edge.badArgument("no key", SORTS, heap -> heap.put(TABLE, NOTHING, ROW));
        Edge.badArgument("no key, a full TABLE", heap -> fullTable(heap, 1), heap -> heap.put(0, 7, 0));
    }

    static void promise27SlotsAreLookedAtFirst() {
        Edge.noIndex("table 8, no key", SORTS, heap -> heap.put(8, NOTHING, ROW));
        Edge.noIndex("key 8, no TABLE", SORTS, heap -> heap.put(ROW, 8, ROW));
        Edge.noIndex("value 8, no TABLE", SORTS, heap -> heap.put(ROW, ROW, 8));
        Edge.noIndex("value -1, no key", SORTS, heap -> heap.put(TABLE, NOTHING, -1));
    }

    static void promise27TheLastEntryFitsOneMoreDoesNot() {
        for (int capacity : new int[] {1, 2, 16}) {
            Edge.Act full = heap -> fullTable(heap, capacity);
            Edge.answers("as many as there can be", capacity, full, heap -> heap.entriesOf(0));
            Edge.changesNothing("one more of " + capacity, false, full, heap -> heap.put(0, 0, 1));
            Edge.changesNothing("one more, without a value", false, full, heap -> heap.put(0, 0, 7));
        }
    }

    static void promise27AnEntryThatIsThereTakesAnotherValueAlsoInAFullTable() {
        for (int capacity : new int[] {1, 16}) {
            for (int entry : new int[] {0, capacity - 1}) {
                RuntimeHeap heap = Edge.behind(scene -> fullTable(scene, capacity));
                heap.load(2, 1, entry);
                Check.yes("put", heap.put(0, 2, 1));
                Check.same("the value", heap.get(3, 0, 2), 1);
                Check.same("entries", heap.entriesOf(0), capacity);
                Check.yes("put of nothing", heap.put(0, 2, 7));
                Check.same("the value", heap.get(3, 0, 2), -1);
                Check.same("entries", heap.entriesOf(0), capacity);
            }
        }
    }

    static void promise27BehindARemovedEntryThereIsPlaceAgain() {
        RuntimeHeap heap = Edge.behind(scene -> fullTable(scene, 16));
        heap.load(2, 1, 15);
        heap.remove(0, 2);
        Check.yes("another key", heap.put(0, 0, 7));
        Check.no("one more", heap.put(0, 1, 7));
    }

    static void promise27BehindAVanishedEntryThereIsPlaceAgain() {
        RuntimeHeap heap = Edge.behind(scene -> fullTable(scene, 16));
        heap.store(1, 0, 7);
        Check.same("a key goes", heap.collectAll(false), 1);
        Check.same("entries", heap.entriesOf(0), 15);
        Check.yes("another key", heap.put(0, 0, 7));
        Check.no("one more", heap.put(0, 1, 7));
    }

    static void promise27TheTableAsItsOwnKeyAndValue() {
        RuntimeHeap heap = new RuntimeHeap();
        heap.newTable(0, 1);
        Check.yes("put", heap.put(0, 0, 0));
        Check.same("get", heap.get(1, 0, 0), 0);
        Check.same("entries", heap.entriesOf(0), 1);
        heap.collectAll(false);
        Check.same("entries, the key being KEPT", heap.entriesOf(0), 1);
        heap.clear(0);
        heap.clear(1);
        Check.same("it does not hold itself", heap.collectAll(false), 1);
    }

    static void promise27KeysAreObjectsNotWhatTheyHold() {
        RuntimeHeap heap = new RuntimeHeap();
        heap.newTable(0, 2);
        heap.newText(1, 0);
        heap.newText(2, 0);
        heap.put(0, 1, 1);
        heap.put(0, 2, 2);
        Check.same("two TEXTs alike are two keys", heap.entriesOf(0), 2);
        Check.same("of the one", heap.get(3, 0, 1), 1);
        Check.same("of the other", heap.get(3, 0, 2), 2);
    }

    // ---- promise 28

    static void promise28ToIsASlot() {
        Edge.slot("get: to", Edge.NEW, (heap, to) -> putTable(heap, 1), (heap, to) -> heap.get(to, 1, 1));
    }

    static void promise28TableIsASlot() {
        Edge.slot("get: table", Edge.NEW, ReferencesEdgesTest::putTable, (heap, table) -> heap.get(1, table, table));
    }

    static void promise28KeyIsASlot() {
        Edge.slot("get: key", Edge.NEW, (heap, key) -> {
            putRow(heap, key);
            putTable(heap, 1);
        }, (heap, key) -> heap.get(1, 1, key));
    }

    static void promise28TableHoldsNoTable() {
        for (int table : new int[] {PLAIN, ROW, TEXT, WEAK, SOFT, PHANTOM, NOTHING}) {
            Edge.badArgument("table " + table, SORTS, heap -> heap.get(NOTHING, table, ROW));
        }
    }

    static void promise28KeyHoldsNothing() {
        Edge.badArgument("no key", SORTS, heap -> heap.get(ROW, TABLE, NOTHING));
    }

    static void promise28SlotsAreLookedAtFirst() {
        Edge.noIndex("to 8, no TABLE", SORTS, heap -> heap.get(8, ROW, ROW));
        Edge.noIndex("table 8, no key", SORTS, heap -> heap.get(ROW, 8, NOTHING));
        Edge.noIndex("key 8, no TABLE", SORTS, heap -> heap.get(ROW, ROW, 8));
    }

    static void promise28NoEntryGivesNothing() {
        Edge.answers("an empty TABLE", -1, SORTS, heap -> heap.get(ROW, TABLE, PLAIN));
        Edge.answers("what to holds then", -1, Edge.both(SORTS, heap -> heap.get(ROW, TABLE, PLAIN)),
            heap -> heap.numberOf(ROW));
        Edge.answers("a full TABLE without this key", -1, heap -> fullTable(heap, 16), heap -> heap.get(1, 0, 0));
    }

    static void promise28AnEntryWithoutAValueGivesNothing() {
        Edge.Act scene = Edge.both(SORTS, heap -> heap.put(TABLE, ROW, NOTHING));
        Edge.answers("get", -1, scene, heap -> heap.get(TEXT, TABLE, ROW));
        Edge.answers("what to holds then", -1, Edge.both(scene, heap -> heap.get(TEXT, TABLE, ROW)),
            heap -> heap.numberOf(TEXT));
        Edge.answers("but it is an entry", 1, scene, heap -> heap.entriesOf(TABLE));
    }

    static void promise28IntoTheSlotOfTheTableOrTheKey() {
        Edge.Act scene = Edge.both(SORTS, heap -> heap.put(TABLE, ROW, TEXT));
        Edge.answers("of the TABLE", 2, scene, heap -> heap.get(TABLE, TABLE, ROW));
        Edge.answers("of the key", 2, scene, heap -> heap.get(ROW, TABLE, ROW));
        Edge.answers("the slot", 2, Edge.both(scene, heap -> heap.get(ROW, TABLE, ROW)), heap -> heap.numberOf(ROW));
    }

    static void promise28TheFirstAndTheLastEntry() {
        RuntimeHeap heap = Edge.behind(scene -> fullTable(scene, 16));
        for (int entry : new int[] {0, 15}) {
            int key = heap.load(2, 1, entry);
            Check.same("entry " + entry, heap.get(3, 0, 2), key);
        }
    }

    static void promise28ValuesThatOnlyTheirEntriesHold() {
        RuntimeHeap heap = new RuntimeHeap();
        heap.newTable(0, 16);
        heap.newRow(1, 16);
        for (int entry = 0; entry < 16; entry++) {
            heap.newText(2, 0);
            heap.store(1, entry, 2);
            heap.newText(3, 0);
            heap.put(0, 2, 3);
        }
        heap.clear(2);
        heap.clear(3);
        Check.same("all of them", heap.collectAll(false), 0);
        for (int entry = 0; entry < 16; entry++) {
            int key = heap.load(2, 1, entry);
            Check.same("the value of entry " + entry, heap.get(3, 0, 2), key + 1);
        }
    }

    // ---- promise 29

    static void promise29TableIsASlot() {
        Edge.slot("remove: table", Edge.NEW, ReferencesEdgesTest::putTable, (heap, table) -> heap.remove(table, table));
    }

    static void promise29KeyIsASlot() {
        Edge.slot("remove: key", Edge.NEW, (heap, key) -> {
            putRow(heap, key);
            putTable(heap, 1);
        }, (heap, key) -> heap.remove(1, key));
    }

    static void promise29TableHoldsNoTable() {
        for (int table : new int[] {PLAIN, ROW, TEXT, WEAK, SOFT, PHANTOM, NOTHING}) {
            Edge.badArgument("table " + table, SORTS, heap -> heap.remove(table, ROW));
        }
    }

    static void promise29KeyHoldsNothing() {
        Edge.badArgument("no key, an empty TABLE", SORTS, heap -> heap.remove(TABLE, NOTHING));
        Edge.badArgument("no key, one entry", Edge.both(SORTS, heap -> heap.put(TABLE, ROW, NOTHING)),
            heap -> heap.remove(TABLE, NOTHING));
    }

    static void promise29SlotsAreLookedAtFirst() {
        Edge.noIndex("table 8, no key", SORTS, heap -> heap.remove(8, NOTHING));
        Edge.noIndex("key -1, no TABLE", SORTS, heap -> heap.remove(ROW, -1));
    }

    static void promise29NoEntryIsLeftAlone() {
        Edge.changesNothing("an empty TABLE", false, SORTS, heap -> heap.remove(TABLE, ROW));
        Edge.changesNothing("another key", false, Edge.both(SORTS, heap -> heap.put(TABLE, ROW, TEXT)),
            heap -> heap.remove(TABLE, TEXT));
        Edge.changesNothing("a full TABLE", false, heap -> fullTable(heap, 16), heap -> heap.remove(0, 0));
    }

    static void promise29TheOnlyEntryAndOnceMore() {
        Edge.Act scene = Edge.both(SORTS, heap -> heap.put(TABLE, ROW, TEXT));
        Edge.answers("remove", true, scene, heap -> heap.remove(TABLE, ROW));
        Edge.Act without = Edge.both(scene, heap -> heap.remove(TABLE, ROW));
        Edge.answers("entries", 0, without, heap -> heap.entriesOf(TABLE));
        Edge.changesNothing("once more", false, without, heap -> heap.remove(TABLE, ROW));
    }

    static void promise29AnEntryWithoutAValueIsOneToo() {
        Edge.answers("remove", true, Edge.both(SORTS, heap -> heap.put(TABLE, ROW, NOTHING)),
            heap -> heap.remove(TABLE, ROW));
    }

    static void promise29TheOthersStay() {
        RuntimeHeap heap = Edge.behind(scene -> fullTable(scene, 16));
        for (int entry : new int[] {0, 15, 7}) {
            heap.load(2, 1, entry);
            Check.yes("remove", heap.remove(0, 2));
        }
        Check.same("entries", heap.entriesOf(0), 13);
        for (int entry = 0; entry < 16; entry++) {
            int key = heap.load(2, 1, entry);
            boolean isRemoved = entry == 0 || entry == 7 || entry == 15;
            Check.same("entry " + entry, heap.get(3, 0, 2), isRemoved ? -1 : key);
        }
    }

    static void promise29TheValueIsHeldNoMore() {
        RuntimeHeap heap = Edge.behind(SORTS);
        heap.put(TABLE, ROW, TEXT);
        heap.clear(TEXT);
        Check.same("the TABLE holds it", heap.wouldRemove(false), 0);
        heap.remove(TABLE, ROW);
        Check.same("then nothing does", heap.wouldRemove(false), 1);
    }
}
