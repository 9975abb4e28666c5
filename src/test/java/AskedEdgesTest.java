/** Boundary cases of the promises 49 to 72: what a slot holds, and the whole memory, asked. */
final class AskedEdgesTest {
    private static final Class<IndexOutOfBoundsException> INDEX = IndexOutOfBoundsException.class;

    // What a slot holds in SORTS: one object of each form; nothing in slot 7.
    private static final int PLAIN = 0;
    private static final int ROW = 1;
    private static final int TEXT = 2;
    private static final int WEAK = 3;
    private static final int SOFT = 4;
    private static final int PHANTOM = 5;
    private static final int TABLE = 6;
    private static final int NOTHING = 7;

    private static final Edge.Act SORTS = AskedEdgesTest::sorts;

    /** A question about what a slot holds. */
    interface Question {
        Object of(RuntimeHeap heap, int slot);
    }

    public static void main(String[] args) {
        Check.runAll(AskedEdgesTest.class);
    }

    /** One of each form; the PLAIN is of kind 1, with 2 reference and 3 number fields. */
    private static void sorts(RuntimeHeap heap) {
        heap.defineKind(-1, 1, 2, false);
        heap.defineKind(0, 1, 1, false);
        heap.newObject(PLAIN, 1);
        heap.newRow(ROW, 4);
        heap.newText(TEXT, 5);
        heap.newWeak(WEAK, ROW, true);
        heap.newSoft(SOFT, ROW, true);
        heap.newPhantom(PHANTOM, ROW);
        heap.newTable(TABLE, 3);
    }

    private static void extremes(RuntimeHeap heap) {
        heap.defineKind(-1, 0, 4, false);
        heap.defineKind(-1, 4, 0, false);
        heap.defineKind(1, 4, 0, false);
        heap.newObject(0, 0);
        heap.newObject(1, 2);
        heap.newRow(2, 0);
        heap.newRow(3, 40);
        heap.newText(4, 0);
        heap.newText(5, 120);
        heap.newTable(6, 1);
        heap.newTable(7, 16);
    }

    private static void putRow(RuntimeHeap heap, int slot) {
        heap.newRow(slot, 1);
    }

    private static void asks(String what, Edge.Act scene, Question question, Object... due) {
        for (int slot = 0; slot < due.length; slot++) {
            int asked = slot;
            Edge.changesNothing(what + " of slot " + slot, due[slot], scene, heap -> question.of(heap, asked));
        }
    }

    // ---- promises 49 to 58

    static void promise49SlotIsASlot() {
        Edge.slot("formOf", Edge.NEW, AskedEdgesTest::putRow, RuntimeHeap::formOf);
    }

    static void promise49EachFormAndNothing() {
        asks("formOf", SORTS, RuntimeHeap::formOf, 0, 1, 2, 3, 4, 5, 6, -1);
    }

    static void promise50SlotIsASlot() {
        Edge.slot("kindOf", Edge.NEW, AskedEdgesTest::putRow, RuntimeHeap::kindOf);
    }

    static void promise50OnlyAPlainHasAKind() {
        asks("kindOf", SORTS, RuntimeHeap::kindOf, 1, -1, -1, -1, -1, -1, -1, -1);
    }

    static void promise50TheFirstAndTheLastKind() {
        Edge.Act scene = heap -> {
            for (int kind = 0; kind < 12; kind++) {
                heap.defineKind(kind - 1, 0, 0, false);
            }
            heap.newObject(0, 0);
            heap.newObject(1, 11);
        };
        asks("kindOf", scene, RuntimeHeap::kindOf, 0, 11);
    }

    static void promise51SlotIsASlot() {
        Edge.slot("lengthOf", Edge.NEW, AskedEdgesTest::putRow, RuntimeHeap::lengthOf);
    }

    static void promise51EachFormAndNothing() {
        asks("lengthOf", SORTS, RuntimeHeap::lengthOf, 2, 4, 5, 1, 1, 1, 3, -1);
    }

    static void promise51TheLeastAndTheGreatestLengths() {
        asks("lengthOf", AskedEdgesTest::extremes, RuntimeHeap::lengthOf, 0, 8, 0, 40, 0, 120, 1, 16);
    }

    static void promise51AClearedReferenceAndATableWithEntriesHaveTheSame() {
        Edge.Act scene = Edge.both(SORTS, heap -> {
            heap.forget(WEAK);
            heap.forget(SOFT);
            heap.forget(PHANTOM);
            heap.put(TABLE, ROW, ROW);
        });
        asks("lengthOf", scene, RuntimeHeap::lengthOf, 2, 4, 5, 1, 1, 1, 3, -1);
    }

    static void promise52SlotIsASlot() {
        Edge.slot("wordsOf", Edge.NEW, AskedEdgesTest::putRow, RuntimeHeap::wordsOf);
    }

    static void promise52EachFormAndNothing() {
        asks("wordsOf", SORTS, RuntimeHeap::wordsOf, 7, 6, 4, 3, 3, 3, 8, 0);
    }

    static void promise52TheLeastAndTheGreatestWords() {
        asks("wordsOf", AskedEdgesTest::extremes, RuntimeHeap::wordsOf, 6, 10, 2, 42, 2, 32, 4, 34);
    }

    static void promise52AClearedReferenceAndATableWithEntriesHaveTheSame() {
        Edge.Act scene = Edge.both(SORTS, heap -> {
            heap.forget(WEAK);
            heap.put(TABLE, ROW, ROW);
        });
        asks("wordsOf", scene, RuntimeHeap::wordsOf, 7, 6, 4, 3, 3, 3, 8, 0);
    }

    static void promise53SlotIsASlot() {
        Edge.slot("ageOf", Edge.NEW, AskedEdgesTest::putRow, RuntimeHeap::ageOf);
    }

    static void promise53ZeroAtFirstNothingHasNone() {
        asks("ageOf", SORTS, RuntimeHeap::ageOf, 0, 0, 0, 0, 0, 0, 0, -1);
    }

    static void promise53ThatOfAnOldOneStays() {
        Edge.Act scene = heap -> {
            heap.newRow(0, 31);
            heap.newRow(1, 0);
            heap.collectYoung();
            heap.newRow(2, 0);
            heap.collectYoung();
            heap.collectYoung();
            heap.collectYoung();
        };
        asks("ageOf", scene, RuntimeHeap::ageOf, 0, 2, 2, -1);
    }

    static void promise54SlotIsASlot() {
        Edge.slot("isOld", Edge.NEW, AskedEdgesTest::putRow, RuntimeHeap::isOld);
    }

    static void promise54OldByWordsAndNothing() {
        asks("isOld", AskedEdgesTest::extremes, RuntimeHeap::isOld,
            false, false, false, true, false, false, false, true);
        asks("isOld of nothing", Edge.NEW, RuntimeHeap::isOld, false);
    }

    static void promise55SlotIsASlot() {
        Edge.slot("isFinalized", Edge.NEW, AskedEdgesTest::putRow, RuntimeHeap::isFinalized);
    }

    static void promise55OnlyAFinalOneThatWasInTheLastRow() {
        Edge.Act scene = heap -> {
            heap.defineKind(-1, 0, 0, true);
            heap.newObject(0, 0);
            heap.clear(0);
            heap.collectAll(false);
            heap.takeLast(0);
            heap.newObject(1, 0);
            heap.newRow(2, 0);
        };
        asks("isFinalized", scene, RuntimeHeap::isFinalized, true, false, false, false);
    }

    static void promise56SlotIsASlot() {
        Edge.slot("isInterned", Edge.NEW, AskedEdgesTest::putRow, RuntimeHeap::isInterned);
    }

    static void promise56OnlyTheTextItself() {
        Edge.Act scene = heap -> {
            heap.newText(0, 0);
            heap.newText(1, 0);
            heap.intern(0, 0);
            heap.intern(2, 1);
            heap.newRow(3, 0);
        };
        asks("isInterned", scene, RuntimeHeap::isInterned, true, false, true, false, false);
    }

    static void promise57SlotIsASlot() {
        Edge.slot("isCleared", Edge.NEW, AskedEdgesTest::putRow, RuntimeHeap::isCleared);
    }

    static void promise57OnlyAReferenceCanBeCleared() {
        asks("isCleared", SORTS, RuntimeHeap::isCleared, false, false, false, false, false, false, false, false);
        Edge.Act cleared = Edge.both(SORTS, heap -> {
            heap.clear(ROW);
            heap.collectAll(true);
        });
        asks("isCleared", cleared, RuntimeHeap::isCleared, false, false, false, true, true, true, false, false);
    }

    static void promise58SlotIsASlot() {
        Edge.slot("entriesOf", Edge.NEW, AskedEdgesTest::putRow, RuntimeHeap::entriesOf);
    }

    static void promise58OnlyATableHasEntries() {
        asks("entriesOf", SORTS, RuntimeHeap::entriesOf, -1, -1, -1, -1, -1, -1, 0, -1);
    }

    static void promise58NoneAndAsManyAsThereCanBe() {
        RuntimeHeap heap = new RuntimeHeap();
        heap.newTable(0, 16);
        heap.newRow(2, 16);
        for (int entries = 0; entries < 16; entries++) {
            Check.same("entriesOf", heap.entriesOf(0), entries);
            heap.newText(1, 0);
            heap.store(2, entries, 1);
            heap.put(0, 1, 7);
        }
        Check.same("entriesOf", heap.entriesOf(0), 16);
        Check.no("one more", heap.put(0, 2, 7));
        Check.same("entriesOf", heap.entriesOf(0), 16);
    }

    static void promise58AnotherValueIsNoOtherEntry() {
        Edge.Act scene = Edge.both(SORTS, heap -> {
            heap.put(TABLE, ROW, ROW);
            heap.put(TABLE, ROW, NOTHING);
        });
        Edge.answers("entriesOf", 1, scene, heap -> heap.entriesOf(TABLE));
    }

    // ---- promises 59 to 66

    static void promise59NoneAndThoseThatAreNotReached() {
        Edge.changesNothing("none", 0, Edge.NEW, RuntimeHeap::objects);
        Edge.changesNothing("all of them", 7, SORTS, RuntimeHeap::objects);
        Edge.changesNothing("the most", 208, Fill::mostObjects, RuntimeHeap::objects);
        Edge.changesNothing("an unreached one is PRESENT", 7, Edge.both(SORTS, heap -> heap.clear(TEXT)),
            RuntimeHeap::objects);
        Edge.changesNothing("a removed one is not", 6, Edge.both(SORTS, heap -> {
            heap.clear(TEXT);
            heap.collectAll(false);
        }), RuntimeHeap::objects);
    }

    static void promise60NoneAndOldOnesDoNotCount() {
        Edge.changesNothing("none", 0, Edge.NEW, RuntimeHeap::youngObjects);
        Edge.changesNothing("all of them", 7, SORTS, RuntimeHeap::youngObjects);
        Edge.changesNothing("the most", 48, Fill::mostObjects, RuntimeHeap::youngObjects);
        Edge.changesNothing("6 of 8", 6, AskedEdgesTest::extremes, RuntimeHeap::youngObjects);
        Edge.changesNothing("none of 7", 0, Edge.both(SORTS, heap -> heap.collectAll(false)),
            RuntimeHeap::youngObjects);
    }

    static void promise61NoneAndTheMost() {
        Edge.changesNothing("none", 0, Edge.NEW, RuntimeHeap::youngWords);
        Edge.changesNothing("the most", 96, heap -> Fill.words(heap, 0, 96), RuntimeHeap::youngWords);
        Edge.changesNothing("beside OLD ones", 56, AskedEdgesTest::extremes, RuntimeHeap::youngWords);
    }

    static void promise62NoneAndTheMost() {
        Edge.changesNothing("none", 0, Edge.NEW, RuntimeHeap::oldWords);
        Edge.changesNothing("the most", 320, heap -> Fill.words(heap, 320, 96), RuntimeHeap::oldWords);
        Edge.changesNothing("beside YOUNG ones", 76, AskedEdgesTest::extremes, RuntimeHeap::oldWords);
    }

    static void promise63RemovedOnesCountRefusedOnesDoNot() {
        Edge.changesNothing("none", 0, Edge.NEW, RuntimeHeap::made);
        RuntimeHeap heap = new RuntimeHeap();
        heap.newRow(0, 0);
        heap.newRow(0, 0);
        heap.collectAll(false);
        Check.same("a removed one", heap.made(), 2);
        Check.badArgument(heap, "a refused one", () -> heap.newRow(0, 41));
        Check.same("a refused one", heap.made(), 2);
        RuntimeHeap full = new RuntimeHeap();
        Fill.words(full, 320, 96);
        int made = full.made();
        full.newRow(0, 40);
        Check.same("one without room", full.made(), made);
    }

    static void promise63YoungAndOldOnesCountAlike() {
        RuntimeHeap heap = new RuntimeHeap();
        heap.newRow(0, 40);
        Check.same("an OLD one", heap.made(), 1);
        heap.newRow(1, 0);
        Check.same("a YOUNG one as well", heap.made(), 2);
        heap.collectAll(false);
        Check.same("when it becomes OLD", heap.made(), 2);
    }

    private static void oneInTheQueueTwoInTheLastRow(RuntimeHeap heap) {
        heap.defineKind(-1, 0, 0, true);
        heap.newObject(0, 0);
        heap.newWeak(1, 0, true);
        heap.newObject(0, 0);
        heap.clear(0);
        heap.collectAll(false);
    }

    static void promise64WhatIsInTheLastRowDoesNotCount() {
        Edge.changesNothing("queued", 1, AskedEdgesTest::oneInTheQueueTwoInTheLastRow, RuntimeHeap::queued);
    }

    static void promise65WhatIsInTheQueueDoesNotCount() {
        Edge.changesNothing("lasts", 2, AskedEdgesTest::oneInTheQueueTwoInTheLastRow, RuntimeHeap::lasts);
    }

    static void promise64EmptyAndByOneFewerBehindEachPoll() {
        Edge.changesNothing("empty", 0, SORTS, RuntimeHeap::queued);
        Edge.Act scene = Edge.both(SORTS, heap -> {
            heap.clear(ROW);
            heap.collectAll(true);
        });
        Edge.changesNothing("three", 3, scene, RuntimeHeap::queued);
        Edge.changesNothing("two", 2, Edge.both(scene, heap -> heap.poll(7)), RuntimeHeap::queued);
    }

    static void promise65EmptyAndByOneFewerBehindEachTake() {
        Edge.changesNothing("empty", 0, SORTS, RuntimeHeap::lasts);
        Edge.Act scene = heap -> {
            heap.defineKind(-1, 0, 0, true);
            heap.newObject(0, 0);
            heap.newObject(0, 0);
            heap.clear(0);
            heap.collectAll(true);
        };
        Edge.changesNothing("two", 2, scene, RuntimeHeap::lasts);
        Edge.changesNothing("one", 1, Edge.both(scene, heap -> heap.takeLast(7)), RuntimeHeap::lasts);
    }

    static void promise66NoneAndOnlyPresentOnes() {
        Edge.changesNothing("none", 0, SORTS, RuntimeHeap::interned);
        Edge.Act scene = heap -> {
            for (int length = 0; length < 3; length++) {
                heap.newText(length, length);
                heap.intern(length, length);
                heap.intern(length, length);
            }
            heap.clear(1);
        };
        Edge.changesNothing("also one that is not reached", 3, scene, RuntimeHeap::interned);
        Edge.changesNothing("not one that is removed", 2, Edge.both(scene, RuntimeHeap::collectYoung),
            RuntimeHeap::interned);
    }

    // ---- promises 67 to 72

    static void promise67AndPromise68OfEachWayToCollect() {
        RuntimeHeap heap = new RuntimeHeap();
        int[] counts = new int[2];
        expect(heap, "none", counts, 0, 0);
        heap.collectYoung();
        expect(heap, "a young one", counts, 1, 0);
        heap.collectAll(false);
        expect(heap, "a full one", counts, 0, 1);
        heap.collectAll(true);
        expect(heap, "a PRESSED one", counts, 0, 1);
        heap.beginMarking();
        expect(heap, "the beginning of marking", counts, 0, 0);
        heap.step(1);
        expect(heap, "the end of marking", counts, 0, 1);
        Check.same("isMarking", heap.isMarking() ? 1 : 0, 0);
        for (int slot = 0; slot < 8; slot++) {
            heap.newRow(slot, 38);
        }
        heap.push(1);
        heap.newRow(0, 0);
        heap.collectYoung();
        expect(heap, "a full one instead of a young one", counts, 0, 1);
        heap.newRow(0, 40);
        expect(heap, "the three without room, beyond 320 words", counts, 0, 3);
    }

    private static void expect(RuntimeHeap heap, String what, int[] counts, int young, int full) {
        Check.same("promise 67, " + what, heap.youngCollections(), counts[0] + young);
        Check.same("promise 68, " + what, heap.fullCollections(), counts[1] + full);
        counts[0] = heap.youngCollections();
        counts[1] = heap.fullCollections();
    }

    static void promise67YoungOnesForRoomCount() {
        RuntimeHeap heap = new RuntimeHeap();
        Fill.words(heap, 0, 64);
        heap.newRow(0, 30);
        heap.newRow(0, 30);
        Check.same("youngCollections", heap.youngCollections(), 1);
    }

    static void promise68RefusedOnesDoNotCount() {
        RuntimeHeap heap = new RuntimeHeap();
        heap.beginMarking();
        Check.badState(heap, "collectAll", () -> heap.collectAll(true));
        Check.badState(heap, "collectYoung", heap::collectYoung);
        Check.same("fullCollections", heap.fullCollections(), 0);
        Check.same("youngCollections", heap.youngCollections(), 0);
    }

    static void promise69OffOnAndOffAgain() {
        Edge.changesNothing("at first", false, Edge.NEW, RuntimeHeap::isMarking);
        Edge.changesNothing("on", true, RuntimeHeap::beginMarking, RuntimeHeap::isMarking);
        Edge.changesNothing("off", false, Edge.both(RuntimeHeap::beginMarking, heap -> heap.step(50)),
            RuntimeHeap::isMarking);
    }

    static void promise70TwoTheLeastAndTheGreatest() {
        Edge.changesNothing("at first", 2, Edge.NEW, RuntimeHeap::tenure);
        Edge.changesNothing("the least", 1, heap -> heap.setTenure(1), RuntimeHeap::tenure);
        Edge.changesNothing("the greatest", 4, heap -> heap.setTenure(4), RuntimeHeap::tenure);
    }

    /** An IMAGE of 400 numbers: a row of 31 places and 3 texts of 120 bytes. */
    private static void longestImage(RuntimeHeap heap) {
        heap.newRow(0, 31);
        for (int place = 0; place < 3; place++) {
            heap.newText(1, 120);
            heap.store(0, place, 1);
        }
        heap.writeImage(0);
    }

    static void promise71NoneTheLeastAndTheMost() {
        Edge.changesNothing("none", 0, SORTS, RuntimeHeap::imageLength);
        Edge.changesNothing("the least", 3, heap -> {
            heap.newText(0, 0);
            heap.writeImage(0);
        }, RuntimeHeap::imageLength);
        Edge.changesNothing("the most", 400, AskedEdgesTest::longestImage, RuntimeHeap::imageLength);
    }

    static void promise72PlaceIsOneOfTheImage() {
        Edge.noIndex("place 0 of none", SORTS, heap -> heap.imageAt(0));
        Edge.range(INDEX, "imageAt, 3 numbers", 0, 2, heap -> {
            heap.newText(0, 0);
            heap.writeImage(0);
        }, RuntimeHeap::imageAt);
        Edge.range(INDEX, "imageAt, 400 numbers", 0, 399, AskedEdgesTest::longestImage, RuntimeHeap::imageAt);
    }

    static void promise72TheFirstAndTheLastNumber() {
        Edge.changesNothing("the first", 4, AskedEdgesTest::longestImage, heap -> heap.imageAt(0));
        Edge.Act scene = Edge.both(AskedEdgesTest::longestImage, heap -> heap.setImage(399, -7));
        Edge.changesNothing("the last", -7, scene, heap -> heap.imageAt(399));
    }
}
