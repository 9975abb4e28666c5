/** Boundary cases of the promises 1 to 8 and 40 to 48: kinds, frames, slots and globals. */
final class KindsAndFramesEdgesTest {
    private static final Class<IndexOutOfBoundsException> INDEX = IndexOutOfBoundsException.class;
    private static final Class<IllegalArgumentException> ARGUMENT = IllegalArgumentException.class;

    public static void main(String[] args) {
        Check.runAll(KindsAndFramesEdgesTest.class);
    }

    private static void putRow(RuntimeHeap heap, int slot) {
        heap.newRow(slot, 1);
    }

    private static void define(RuntimeHeap heap, int kinds) {
        for (int i = 0; i < kinds; i++) {
            heap.defineKind(-1, 0, 0, false);
        }
    }

    private static void pushUpTo(RuntimeHeap heap, int frames) {
        while (heap.frames() < frames) {
            heap.push(2);
        }
    }

    // ---- promise 1

    static void promise1NoObjectsAtFirst() {
        RuntimeHeap heap = new RuntimeHeap();
        Check.same("objects", heap.objects(), 0);
        Check.same("made", heap.made(), 0);
        Check.same("youngObjects", heap.youngObjects(), 0);
        Check.same("youngWords", heap.youngWords(), 0);
        Check.same("oldWords", heap.oldWords(), 0);
        Check.no("isPresent(0)", heap.isPresent(0));
        Check.same("the number of the first one", heap.newRow(0, 0), 0);
    }

    static void promise1NoKindsAtFirst() {
        Edge.answers("kinds", 0, Edge.NEW, RuntimeHeap::kinds);
        Edge.noIndex("kind 0 of none", Edge.NEW, heap -> heap.referencesOf(0));
        Edge.answers("the number of the first kind", 0, Edge.NEW, heap -> heap.defineKind(-1, 0, 0, false));
    }

    static void promise1OneFrameOfEightSlots() {
        Edge.answers("frames", 1, Edge.NEW, RuntimeHeap::frames);
        Edge.answers("slots", 8, Edge.NEW, RuntimeHeap::slots);
        Edge.answers("slot 7 is there", -1, Edge.NEW, heap -> heap.numberOf(7));
        Edge.noIndex("slot 8 is not", Edge.NEW, heap -> heap.numberOf(8));
    }

    static void promise1SlotsAndGlobalsHoldNothingAtFirst() {
        RuntimeHeap heap = new RuntimeHeap();
        for (int i = 0; i < 8; i++) {
            Check.same("slot " + i, heap.numberOf(i), -1);
            Check.same("global " + i, heap.globalNumber(i), -1);
        }
    }

    static void promise1RowsAndImageEmptyAtFirst() {
        Edge.answers("queued", 0, Edge.NEW, RuntimeHeap::queued);
        Edge.answers("lasts", 0, Edge.NEW, RuntimeHeap::lasts);
        Edge.answers("imageLength", 0, Edge.NEW, RuntimeHeap::imageLength);
    }

    static void promise1MarkingOffAndTenureTwoAtFirst() {
        Edge.answers("isMarking", false, Edge.NEW, RuntimeHeap::isMarking);
        Edge.answers("tenure", 2, Edge.NEW, RuntimeHeap::tenure);
    }

    static void promise1MemoriesShareNothing() {
        RuntimeHeap one = new RuntimeHeap();
        long before = one.digest();
        RuntimeHeap other = new RuntimeHeap();
        define(other, 12);
        other.newRow(0, 40);
        other.setTenure(4);
        other.writeImage(0);
        Check.same("digest of the one", one.digest(), before);
        Edge.answers("kinds of a third one", 0, Edge.NEW, RuntimeHeap::kinds);
    }

    static void promise1KindsAndObjectsOfOneMemoryAreNotThoseOfAnother() {
        RuntimeHeap one = new RuntimeHeap();
        RuntimeHeap other = new RuntimeHeap();
        one.defineKind(-1, 1, 2, true);
        other.defineKind(-1, 3, 4, false);
        one.newObject(0, 0);
        one.setNumber(0, 1, 7);
        other.newObject(0, 0);
        other.setNumber(0, 1, 8);
        Check.same("references of the one", one.referencesOf(0), 1);
        Check.same("references of the other", other.referencesOf(0), 3);
        Check.same("numbers of the one", one.numbersOf(0), 2);
        Check.yes("the one is final", one.isFinal(0));
        Check.no("the other is not", other.isFinal(0));
        Check.same("number of the one", one.getNumber(0, 1), 7);
        Check.same("number of the other", other.getNumber(0, 1), 8);
    }

    static void promise1RootsOfOneMemoryAreNotThoseOfAnother() {
        RuntimeHeap one = new RuntimeHeap();
        RuntimeHeap other = Edge.behind(Fill::everything);
        Check.same("queued", one.queued(), 0);
        Check.same("lasts", one.lasts(), 0);
        Check.same("poll", one.poll(0), -1);
        Check.same("takeLast", one.takeLast(0), -1);
        Check.same("frames", one.frames(), 1);
        Check.no("isMarking", one.isMarking());
        for (int i = 0; i < 8; i++) {
            Check.same("slot", one.numberOf(i), -1);
            Check.same("global", one.globalNumber(i), -1);
        }
        Check.same("the other one's", other.queued() + other.lasts(), 4);
    }

    static void promise1IsUsedForFiveHundredAndTwelveCalls() {
        RuntimeHeap heap = new RuntimeHeap();
        for (int call = 0; call < 510; call++) {
            Check.same("call " + call, heap.newRow(call % 8, 10), call);
        }
        Check.same("call 511", heap.made(), 510);
        Check.same("call 512", heap.flaws(), 0);
    }

    // ---- promise 2

    static void promise2ParentIsMinusOneOrAKind() {
        Edge.range(INDEX, "parent", -1, 2, heap -> define(heap, 3),
            (heap, parent) -> heap.defineKind(parent, 0, 0, false));
    }

    static void promise2ParentOfTheFirstKindIsMinusOneOnly() {
        Edge.range(INDEX, "parent", -1, -1, Edge.NEW, (heap, parent) -> heap.defineKind(parent, 0, 0, false));
    }

    static void promise2IsFinalIsAsItWasSaid() {
        for (boolean isFinal : new boolean[] {false, true}) {
            Edge.answers("without a parent", isFinal, heap -> heap.defineKind(-1, 1, 1, isFinal),
                heap -> heap.isFinal(0));
            Edge.answers("with a parent that is not", isFinal, heap -> {
                heap.defineKind(-1, 1, 1, false);
                heap.defineKind(0, 1, 1, isFinal);
            }, heap -> heap.isFinal(1));
        }
    }

    static void promise2ReferencesAreZeroToFour() {
        Edge.range(ARGUMENT, "references", 0, 4, Edge.NEW, (heap, own) -> heap.defineKind(-1, own, 0, false));
    }

    static void promise2NumbersAreZeroToFour() {
        Edge.range(ARGUMENT, "numbers", 0, 4, Edge.NEW, (heap, own) -> heap.defineKind(-1, 0, own, false));
    }

    static void promise2EightReferencesWithTheParentsAreTheMost() {
        Edge.Act seven = heap -> {
            heap.defineKind(-1, 4, 0, false);
            heap.defineKind(0, 3, 0, false);
        };
        Edge.range(ARGUMENT, "references upon 7", 0, 1, seven, (heap, own) -> heap.defineKind(1, own, 0, false));
        Edge.answers("references of 7 + 1", 8, seven, heap -> heap.referencesOf(heap.defineKind(1, 1, 0, false)));
        Edge.badArgument("7 + 4", seven, heap -> heap.defineKind(1, 4, 0, false));
        Edge.Act eight = Edge.both(seven, heap -> heap.defineKind(1, 1, 0, false));
        Edge.range(ARGUMENT, "references upon 8", 0, 0, eight, (heap, own) -> heap.defineKind(2, own, 0, false));
    }

    static void promise2EightNumbersWithTheParentsAreTheMost() {
        Edge.Act seven = heap -> {
            heap.defineKind(-1, 0, 4, false);
            heap.defineKind(0, 0, 3, false);
        };
        Edge.range(ARGUMENT, "numbers upon 7", 0, 1, seven, (heap, own) -> heap.defineKind(1, 0, own, false));
        Edge.answers("numbers of 7 + 1", 8, seven, heap -> heap.numbersOf(heap.defineKind(1, 0, 1, false)));
        Edge.badArgument("7 + 4", seven, heap -> heap.defineKind(1, 0, 4, false));
        Edge.Act eight = Edge.both(seven, heap -> heap.defineKind(1, 0, 1, false));
        Edge.range(ARGUMENT, "numbers upon 8", 0, 0, eight, (heap, own) -> heap.defineKind(2, 0, own, false));
    }

    static void promise2ReferencesAndNumbersAreCountedApart() {
        Edge.Act eightAndEight = heap -> {
            heap.defineKind(-1, 4, 4, false);
            heap.defineKind(0, 4, 4, false);
        };
        Edge.answers("8 of each", 8, eightAndEight, heap -> heap.referencesOf(1));
        Edge.answers("8 of each", 8, eightAndEight, heap -> heap.numbersOf(1));
        Edge.answers("none more of each", 2, eightAndEight, heap -> heap.defineKind(1, 0, 0, false));
    }

    static void promise2TheTwelfthKindIsTheLast() {
        Edge.answers("the 12th", 11, heap -> define(heap, 11), heap -> heap.defineKind(-1, 4, 4, true));
        Edge.badState("the 13th", heap -> define(heap, 12), heap -> heap.defineKind(-1, 4, 4, true));
        Edge.badState("the 13th, with a parent", heap -> define(heap, 12), heap -> heap.defineKind(11, 0, 0, false));
    }

    static void promise2ParentIsLookedAtFirst() {
        Edge.noIndex("no such parent, 5 references", Edge.NEW, heap -> heap.defineKind(0, 5, 0, false));
        Edge.noIndex("no such parent, -1 numbers", Edge.NEW, heap -> heap.defineKind(-2, 0, -1, false));
        Edge.noIndex("no such parent, 12 kinds", heap -> define(heap, 12), heap -> heap.defineKind(12, 0, 0, false));
    }

    static void promise2FieldsAreLookedAtAheadOfTheState() {
        Edge.Act full = heap -> {
            heap.defineKind(-1, 4, 4, false);
            heap.defineKind(0, 4, 4, false);
            define(heap, 10);
        };
        Edge.badArgument("5 references, 12 kinds", full, heap -> heap.defineKind(-1, 5, 0, false));
        Edge.badArgument("5 numbers, 12 kinds", full, heap -> heap.defineKind(-1, 0, 5, false));
        Edge.badArgument("9 references, 12 kinds", full, heap -> heap.defineKind(1, 1, 0, false));
        Edge.badArgument("9 numbers, 12 kinds", full, heap -> heap.defineKind(1, 0, 1, false));
    }

    static void promise2ARefusedKindIsNotThere() {
        RuntimeHeap heap = new RuntimeHeap();
        Check.badArgument(heap, "5 references", () -> heap.defineKind(-1, 5, 1, true));
        Check.same("the next one has its number", heap.defineKind(-1, 1, 2, false), 0);
        Check.same("references", heap.referencesOf(0), 1);
        Check.no("final", heap.isFinal(0));
    }

    // ---- promise 3

    static void promise3SlotsAreOneToEight() {
        Edge.range(ARGUMENT, "slots", 1, 8, Edge.NEW, RuntimeHeap::push);
        Edge.answers("slots of the least frame", 1, heap -> heap.push(1), RuntimeHeap::slots);
        Edge.answers("slots of the largest frame", 8, Edge.both(heap -> heap.push(1), heap -> heap.push(8)),
            RuntimeHeap::slots);
    }

    static void promise3TheEighthFrameIsTheLast() {
        Edge.answers("the 8th", 8, heap -> pushUpTo(heap, 7), heap -> heap.push(8));
        Edge.badState("the 9th", heap -> pushUpTo(heap, 8), heap -> heap.push(1));
        Edge.badState("the 9th", heap -> pushUpTo(heap, 8), heap -> heap.push(8));
        Edge.answers("behind a pop there is place again", 8, heap -> {
            pushUpTo(heap, 8);
            heap.pop(0);
        }, heap -> heap.push(8));
    }

    static void promise3SlotsAreLookedAtAheadOfTheState() {
        Edge.badArgument("push(0), 8 frames", heap -> pushUpTo(heap, 8), heap -> heap.push(0));
        Edge.badArgument("push(9), 8 frames", heap -> pushUpTo(heap, 8), heap -> heap.push(9));
    }

    static void promise3NewSlotsHoldNothing() {
        RuntimeHeap heap = new RuntimeHeap();
        heap.push(8);
        for (int slot = 0; slot < 8; slot++) {
            heap.newRow(slot, 0);
        }
        heap.pop(0);
        heap.push(8);
        for (int slot = 0; slot < 8; slot++) {
            Check.same("slot " + slot + ", where another frame was", heap.numberOf(slot), -1);
        }
    }

    static void promise3WhatTheFrameBelowHoldsStays() {
        RuntimeHeap heap = new RuntimeHeap();
        heap.newRow(0, 0);
        heap.newRow(7, 0);
        heap.push(8);
        Check.same("it is still held", heap.collectAll(true), 0);
        heap.pop(7);
        Check.same("slot 7 of the frame below", heap.numberOf(7), 1);
    }

    // ---- promise 4

    static void promise4SlotIsOneOfTheTopFrame() {
        Edge.Act three = heap -> heap.push(3);
        Edge.range(INDEX, "slot of 3 upon 8", 0, 2, three, RuntimeHeap::pop);
        Edge.Act eight = Edge.both(heap -> heap.push(1), heap -> heap.push(8));
        Edge.range(INDEX, "slot of 8 upon 1", 0, 7, eight, RuntimeHeap::pop);
    }

    static void promise4TheOnlyFrameStays() {
        Edge.badState("slot 0", heap -> putRow(heap, 0), heap -> heap.pop(0));
        Edge.badState("slot 7", heap -> putRow(heap, 7), heap -> heap.pop(7));
        Edge.badState("behind the last pop", heap -> {
            heap.push(1);
            heap.pop(0);
        }, heap -> heap.pop(0));
        Edge.answers("two frames", -1, heap -> heap.push(1), heap -> heap.pop(0));
    }

    static void promise4SlotIsLookedAtAheadOfTheState() {
        Edge.noIndex("slot 8 of the only frame", Edge.NEW, heap -> heap.pop(8));
        Edge.noIndex("slot -1 of the only frame", Edge.NEW, heap -> heap.pop(-1));
    }

    static void promise4NothingIsHeldBelowIfTheSlotHoldsNothing() {
        Edge.Act scene = heap -> {
            putRow(heap, 0);
            heap.push(2);
            putRow(heap, 0);
        };
        Edge.answers("pop of an empty slot", -1, scene, heap -> heap.pop(1));
        Edge.answers("slot 0 below", -1, Edge.both(scene, heap -> heap.pop(1)), heap -> heap.numberOf(0));
    }

    static void promise4OnlySlotZeroBelowChanges() {
        RuntimeHeap heap = new RuntimeHeap();
        for (int slot = 0; slot < 8; slot++) {
            putRow(heap, slot);
        }
        heap.push(8);
        putRow(heap, 7);
        Check.same("pop of the last slot", heap.pop(7), 8);
        Check.same("slot 0 below", heap.numberOf(0), 8);
        for (int slot = 1; slot < 8; slot++) {
            Check.same("slot " + slot + " below", heap.numberOf(slot), slot);
        }
    }

    static void promise4TheFrameBelowMayHaveOneSlot() {
        RuntimeHeap heap = new RuntimeHeap();
        heap.push(1);
        heap.push(8);
        putRow(heap, 7);
        Check.same("pop", heap.pop(7), 0);
        Check.same("its only slot", heap.numberOf(0), 0);
        Check.same("slots", heap.slots(), 1);
        Check.same("pop again", heap.pop(0), 0);
        Check.same("slots", heap.slots(), 8);
    }

    static void promise4EightFramesComeDownToOne() {
        RuntimeHeap heap = new RuntimeHeap();
        pushUpTo(heap, 8);
        putRow(heap, 1);
        heap.assign(0, 1);
        for (int frames = 7; frames >= 1; frames--) {
            Check.same("pop", heap.pop(0), 0);
            Check.same("frames", heap.frames(), frames);
        }
    }

    // ---- promise 5

    static void promise5ToIsASlot() {
        Edge.slot("assign: to", Edge.NEW, (heap, to) -> putRow(heap, 1), (heap, to) -> heap.assign(to, 1));
    }

    static void promise5FromIsASlot() {
        Edge.slot("assign: from", Edge.NEW, KindsAndFramesEdgesTest::putRow, (heap, from) -> heap.assign(1, from));
    }

    static void promise5TheSameSlotTwice() {
        Edge.changesNothing("it holds something", 0, heap -> putRow(heap, 3), heap -> heap.assign(3, 3));
        Edge.changesNothing("it holds nothing", -1, Edge.NEW, heap -> heap.assign(3, 3));
    }

    static void promise5NothingIsAssigned() {
        Edge.Act scene = heap -> putRow(heap, 7);
        Edge.answers("its number", -1, scene, heap -> heap.assign(7, 0));
        Edge.answers("what to holds then", -1, Edge.both(scene, heap -> heap.assign(7, 0)), heap -> heap.numberOf(7));
    }

    // ---- promise 6

    static void promise6SlotIsASlot() {
        Edge.slot("clear", Edge.NEW, KindsAndFramesEdgesTest::putRow, RuntimeHeap::clear);
    }

    static void promise6AnEmptySlotIsCleared() {
        Edge.changesNothing("clear of nothing", -1, heap -> putRow(heap, 0), heap -> heap.clear(1));
    }

    static void promise6OnlyThisSlotIsCleared() {
        RuntimeHeap heap = new RuntimeHeap();
        putRow(heap, 0);
        heap.assign(1, 0);
        heap.toGlobal(0, 0);
        Check.same("clear", heap.clear(0), 0);
        Check.same("another slot", heap.numberOf(1), 0);
        Check.same("a global", heap.globalNumber(0), 0);
    }

    // ---- promises 7 and 8

    static void promise7GlobalIsZeroToSeven() {
        Edge.range(INDEX, "global", 0, 7, heap -> putRow(heap, 0), (heap, global) -> heap.toGlobal(global, 0));
        Edge.Act small = heap -> heap.push(1);
        Edge.range(INDEX, "global, one slot", 0, 7, small, (heap, global) -> heap.toGlobal(global, 0));
    }

    static void promise7FromIsASlot() {
        Edge.slot("toGlobal: from", Edge.NEW, KindsAndFramesEdgesTest::putRow, (heap, from) -> heap.toGlobal(7, from));
    }

    static void promise7NothingIsPutIntoAGlobal() {
        Edge.Act scene = heap -> {
            putRow(heap, 0);
            heap.toGlobal(0, 0);
        };
        Edge.answers("what it held", 0, scene, heap -> heap.toGlobal(0, 1));
        Edge.answers("then", -1, Edge.both(scene, heap -> heap.toGlobal(0, 1)), heap -> heap.globalNumber(0));
        Edge.answers("an empty global", -1, scene, heap -> heap.toGlobal(1, 0));
        Edge.changesNothing("nothing into an empty global", -1, scene, heap -> heap.toGlobal(7, 7));
        Edge.changesNothing("what it holds already", 0, scene, heap -> heap.toGlobal(0, 0));
    }

    static void promise8ToIsASlot() {
        Edge.slot("fromGlobal: to", Edge.NEW, (heap, to) -> putRow(heap, to), (heap, to) -> heap.fromGlobal(to, 0));
    }

    static void promise8GlobalIsZeroToSeven() {
        Edge.range(INDEX, "global", 0, 7, heap -> putRow(heap, 0), (heap, global) -> heap.fromGlobal(0, global));
        Edge.Act small = heap -> heap.push(1);
        Edge.range(INDEX, "global, one slot", 0, 7, small, (heap, global) -> heap.fromGlobal(0, global));
    }

    static void promise8AnEmptyGlobalGivesNothing() {
        Edge.Act scene = heap -> putRow(heap, 0);
        Edge.answers("its number", -1, scene, heap -> heap.fromGlobal(0, 7));
        Edge.answers("what to holds then", -1, Edge.both(scene, heap -> heap.fromGlobal(0, 7)),
            heap -> heap.numberOf(0));
    }

    static void promise8GlobalsOutlastFrames() {
        RuntimeHeap heap = new RuntimeHeap();
        heap.push(1);
        putRow(heap, 0);
        heap.toGlobal(7, 0);
        heap.clear(0);
        heap.pop(0);
        heap.collectAll(true);
        Check.same("in another frame", heap.fromGlobal(0, 7), 0);
    }

    // ---- promises 40 to 48

    static void promise40FramesAreOneToEight() {
        Edge.answers("the fewest", 1, Edge.NEW, RuntimeHeap::frames);
        Edge.changesNothing("the most", 8, heap -> pushUpTo(heap, 8), RuntimeHeap::frames);
    }

    static void promise41SlotsOfTheTopFrameOnly() {
        Edge.changesNothing("1 upon 8", 1, heap -> heap.push(1), RuntimeHeap::slots);
        Edge.changesNothing("8 upon 1", 8, Edge.both(heap -> heap.push(1), heap -> heap.push(8)), RuntimeHeap::slots);
    }

    static void promise42KindsAreZeroToTwelve() {
        Edge.changesNothing("none", 0, Edge.NEW, RuntimeHeap::kinds);
        Edge.changesNothing("the most", 12, heap -> define(heap, 12), RuntimeHeap::kinds);
    }

    static void promise43KindIsOneThatIsThere() {
        Edge.range(INDEX, "referencesOf", 0, 2, heap -> define(heap, 3), RuntimeHeap::referencesOf);
        Edge.range(INDEX, "referencesOf, all 12", 0, 11, heap -> define(heap, 12), RuntimeHeap::referencesOf);
        Edge.noIndex("of none", Edge.NEW, heap -> heap.referencesOf(0));
    }

    static void promise43FewestAndMostReferences() {
        Edge.Act scene = heap -> {
            heap.defineKind(-1, 0, 4, false);
            heap.defineKind(0, 4, 4, false);
            heap.defineKind(1, 4, 0, false);
            heap.defineKind(2, 0, 0, false);
        };
        int[] due = {0, 4, 8, 8};
        for (int kind = 0; kind < 4; kind++) {
            int asked = kind;
            Edge.changesNothing("kind " + kind, due[kind], scene, heap -> heap.referencesOf(asked));
        }
    }

    static void promise44KindIsOneThatIsThere() {
        Edge.range(INDEX, "numbersOf", 0, 2, heap -> define(heap, 3), RuntimeHeap::numbersOf);
        Edge.range(INDEX, "numbersOf, all 12", 0, 11, heap -> define(heap, 12), RuntimeHeap::numbersOf);
        Edge.noIndex("of none", Edge.NEW, heap -> heap.numbersOf(0));
    }

    static void promise44FewestAndMostNumbers() {
        Edge.Act scene = heap -> {
            heap.defineKind(-1, 4, 0, false);
            heap.defineKind(0, 4, 4, false);
            heap.defineKind(1, 0, 4, false);
            heap.defineKind(2, 0, 0, false);
        };
        int[] due = {0, 4, 8, 8};
        for (int kind = 0; kind < 4; kind++) {
            int asked = kind;
            Edge.changesNothing("kind " + kind, due[kind], scene, heap -> heap.numbersOf(asked));
        }
    }

    static void promise45KindIsOneThatIsThere() {
        Edge.range(INDEX, "isFinal", 0, 2, heap -> define(heap, 3), RuntimeHeap::isFinal);
        Edge.noIndex("of none", Edge.NEW, heap -> heap.isFinal(0));
    }

    static void promise45TheFarthestAncestorMakesItFinal() {
        Edge.Act scene = heap -> {
            for (int kind = 0; kind < 12; kind++) {
                heap.defineKind(kind - 1, 0, 0, kind == 0);
            }
        };
        Edge.changesNothing("itself", true, scene, heap -> heap.isFinal(0));
        Edge.changesNothing("the last of twelve", true, scene, heap -> heap.isFinal(11));
    }

    static void promise45AFinalChildDoesNotMakeItsParentFinal() {
        Edge.Act scene = heap -> {
            heap.defineKind(-1, 0, 0, false);
            heap.defineKind(0, 0, 0, true);
            heap.defineKind(0, 0, 0, false);
        };
        Edge.answers("the child, said to be final", true, scene, heap -> heap.isFinal(1));
        Edge.answers("the parent", false, scene, heap -> heap.isFinal(0));
        Edge.answers("a child beside it", false, scene, heap -> heap.isFinal(2));
    }

    static void promise46BothAreKindsThatAreThere() {
        Edge.Act three = heap -> define(heap, 3);
        Edge.range(INDEX, "isKindOf: kind", 0, 2, three, (heap, kind) -> heap.isKindOf(kind, 0));
        Edge.range(INDEX, "isKindOf: ancestor", 0, 2, three, (heap, kind) -> heap.isKindOf(0, kind));
        Edge.noIndex("-1, the parent of a kind that has none", three, heap -> heap.isKindOf(0, -1));
    }

    static void promise46TheSameAndTheFarthestAncestor() {
        Edge.Act scene = heap -> {
            for (int kind = 0; kind < 12; kind++) {
                heap.defineKind(kind - 1, 0, 0, false);
            }
        };
        Edge.changesNothing("the same", true, scene, heap -> heap.isKindOf(11, 11));
        Edge.changesNothing("the parent", true, scene, heap -> heap.isKindOf(11, 10));
        Edge.changesNothing("the farthest", true, scene, heap -> heap.isKindOf(11, 0));
        Edge.changesNothing("a child", false, scene, heap -> heap.isKindOf(10, 11));
    }

    static void promise46KindsWithTheSameParentAreNotOfEachOther() {
        Edge.Act scene = heap -> {
            define(heap, 1);
            heap.defineKind(0, 0, 0, false);
            heap.defineKind(0, 0, 0, false);
        };
        Edge.answers("one of the other", false, scene, heap -> heap.isKindOf(1, 2));
        Edge.answers("the other of the one", false, scene, heap -> heap.isKindOf(2, 1));
    }

    static void promise47SlotIsASlot() {
        Edge.slot("numberOf", Edge.NEW, KindsAndFramesEdgesTest::putRow, RuntimeHeap::numberOf);
    }

    static void promise47NothingAndTheFirstNumber() {
        Edge.changesNothing("nothing", -1, heap -> putRow(heap, 1), heap -> heap.numberOf(0));
        Edge.changesNothing("number 0", 0, heap -> putRow(heap, 1), heap -> heap.numberOf(1));
    }

    static void promise48GlobalIsZeroToSeven() {
        Edge.range(INDEX, "globalNumber", 0, 7, Edge.NEW, RuntimeHeap::globalNumber);
        Edge.range(INDEX, "globalNumber, one slot", 0, 7, heap -> heap.push(1), RuntimeHeap::globalNumber);
    }

    static void promise48NothingAndTheFirstNumber() {
        Edge.Act scene = heap -> {
            putRow(heap, 0);
            heap.toGlobal(7, 0);
        };
        Edge.changesNothing("nothing", -1, scene, heap -> heap.globalNumber(6));
        Edge.changesNothing("number 0", 0, scene, heap -> heap.globalNumber(7));
    }

    static void promise47EachKeepsItsNumberWhenOthersGo() {
        RuntimeHeap heap = new RuntimeHeap();
        for (int number = 0; number < 4; number++) {
            heap.newRow(number / 2, 0);
        }
        heap.collectYoung();
        Check.same("where others were", heap.newRow(2, 0), 4);
        for (int i = 0; i < 3; i++) {
            heap.collectYoung();
            Check.same("slot 0", heap.numberOf(0), 1);
            Check.same("slot 1", heap.numberOf(1), 3);
            Check.same("slot 2", heap.numberOf(2), 4);
        }
        heap.beginMarking();
        heap.step(3);
        Check.same("slot 1, OLD and behind marking", heap.numberOf(1), 3);
        Check.same("slot 2", heap.numberOf(2), 4);
        Check.same("the next one's", heap.newRow(1, 0), 5);
    }

    static void promise48EachKeepsItsNumberWhenOthersGo() {
        RuntimeHeap heap = new RuntimeHeap();
        heap.newRow(0, 0);
        heap.newRow(0, 0);
        heap.collectYoung();
        heap.newRow(0, 0);
        heap.toGlobal(5, 0);
        heap.clear(0);
        Check.same("in a place where 0 was", heap.globalNumber(5), 2);
        heap.collectAll(true);
        Check.same("when 1 is gone as well", heap.globalNumber(5), 2);
    }
}
