/** Boundary cases of the promises 38 and 39, and of MARKING in all others. */
final class MarkingEdgesTest {
    private static final Class<IllegalArgumentException> ARGUMENT = IllegalArgumentException.class;

    public static void main(String[] args) {
        Check.runAll(MarkingEdgesTest.class);
    }

    private static void clearAll(RuntimeHeap heap) {
        for (int slot = 0; slot < heap.slots(); slot++) {
            heap.clear(slot);
        }
    }

    /** A row with so many empty texts: one more object than that, all reached. */
    private static void rowOfTexts(RuntimeHeap heap, int texts) {
        heap.newRow(0, texts);
        for (int place = 0; place < texts; place++) {
            heap.newText(1, 0);
            heap.store(0, place, 1);
        }
        heap.clear(1);
    }

    /** A WEAK in slot 0, whose referent nothing holds: a ROW of one place that holds a TEXT. */
    private static void weak(RuntimeHeap heap) {
        heap.newRow(1, 1);
        heap.newText(2, 0);
        heap.store(1, 0, 2);
        heap.newWeak(0, 1, true);
        heap.clear(1);
        heap.clear(2);
    }

    /** Ends marking, and answers how many it visited in all. */
    private static int visits(RuntimeHeap heap) {
        int visits = 0;
        while (heap.isMarking() && visits < 1000) {
            visits += heap.step(50);
        }
        return visits;
    }

    // ---- promise 38

    static void promise38RefusedWhileMarkingIsOn() {
        Edge.badState("marking of nothing", RuntimeHeap::beginMarking, RuntimeHeap::beginMarking);
        Edge.badState("between two steps", heap -> {
            rowOfTexts(heap, 3);
            heap.beginMarking();
            heap.step(1);
        }, RuntimeHeap::beginMarking);
        Edge.answers("behind its end", 1, heap -> {
            rowOfTexts(heap, 3);
            heap.beginMarking();
            heap.step(4);
        }, RuntimeHeap::beginMarking);
    }

    static void promise38RootsHoldNone() {
        Edge.answers("an empty memory", 0, Edge.NEW, RuntimeHeap::beginMarking);
        Edge.answers("one that is not reached", 0, heap -> {
            heap.newRow(0, 0);
            heap.clear(0);
        }, RuntimeHeap::beginMarking);
        Edge.answers("isMarking", true, RuntimeHeap::beginMarking, RuntimeHeap::isMarking);
    }

    static void promise38EachIsCountedOnce() {
        RuntimeHeap heap = new RuntimeHeap();
        heap.newRow(0, 1);
        heap.store(0, 0, 0);
        for (int i = 0; i < 8; i++) {
            heap.assign(i, 0);
            heap.toGlobal(i, 0);
        }
        heap.push(8);
        heap.fromGlobal(7, 0);
        Check.same("17 times the same", heap.beginMarking(), 1);
    }

    static void promise38OnlyWhatRootsThemselvesHold() {
        Edge.answers("a row of 15 texts", 1, heap -> rowOfTexts(heap, 15), RuntimeHeap::beginMarking);
    }

    static void promise38TheQueueAndTheLastRowCountAndAreRoots() {
        RuntimeHeap heap = new RuntimeHeap();
        heap.defineKind(-1, 0, 0, true);
        heap.newObject(0, 0);
        heap.newPhantom(1, 0);
        heap.newRow(0, 0);
        heap.newPhantom(2, 0);
        heap.clear(0);
        heap.collectAll(false);
        Check.same("lasts", heap.lasts(), 1);
        Check.same("queued", heap.queued(), 1);
        clearAll(heap);
        Check.same("beginMarking", heap.beginMarking(), 2);
        Check.same("visits", visits(heap), 2);
    }

    static void promise38AllSlotsOfAllFrames() {
        RuntimeHeap heap = new RuntimeHeap();
        for (int frame = 0; frame < 5; frame++) {
            heap.newRow(heap.slots() - 1, 0);
            heap.push(frame + 1);
        }
        Check.same("beginMarking", heap.beginMarking(), 5);
    }

    // ---- promise 39

    static void promise39VisitsAreOneToFifty() {
        Edge.range(ARGUMENT, "step", 1, 50, heap -> {
            rowOfTexts(heap, 3);
            heap.beginMarking();
        }, RuntimeHeap::step);
    }

    static void promise39RefusedWhileMarkingIsOff() {
        Edge.badState("never on", Edge.NEW, heap -> heap.step(1));
        Edge.badState("behind its end", heap -> {
            heap.beginMarking();
            heap.step(1);
        }, heap -> heap.step(1));
        Edge.badState("behind its end for room", heap -> {
            Fill.words(heap, 0, 96);
            heap.beginMarking();
            heap.newRow(0, 0);
        }, heap -> heap.step(50));
    }

    static void promise39VisitsAreLookedAtAheadOfTheState() {
        Edge.badArgument("0, marking is off", Edge.NEW, heap -> heap.step(0));
        Edge.badArgument("51, marking is off", Edge.NEW, heap -> heap.step(51));
        Edge.badArgument("-1, marking is off", Edge.NEW, heap -> heap.step(-1));
    }

    static void promise39AsManyAsItIsTold() {
        RuntimeHeap heap = Edge.behind(scene -> rowOfTexts(scene, 15));
        heap.beginMarking();
        Check.same("step(1)", heap.step(1), 1);
        Check.same("step(14)", heap.step(14), 14);
        Check.yes("one of 16 is left", heap.isMarking());
        Check.same("full collections", heap.fullCollections(), 0);
        Check.same("step(1)", heap.step(1), 1);
        Check.no("none is left", heap.isMarking());
        Check.same("full collections", heap.fullCollections(), 1);
    }

    static void promise39AllThatAreLeftIfTheseAreFewer() {
        Edge.Act scene = heap -> {
            rowOfTexts(heap, 15);
            heap.beginMarking();
        };
        Edge.answers("17 of 16", 16, scene, heap -> heap.step(17));
        Edge.answers("16 of 16", 16, scene, heap -> heap.step(16));
        Edge.answers("15 of 16", 15, scene, heap -> heap.step(15));
        Edge.answers("50 of 1", 1, Edge.both(scene, heap -> heap.step(15)), heap -> heap.step(50));
        Edge.answers("marking behind 17", false, Edge.both(scene, heap -> heap.step(17)), RuntimeHeap::isMarking);
        Edge.answers("marking behind 16", false, Edge.both(scene, heap -> heap.step(16)), RuntimeHeap::isMarking);
        Edge.answers("marking behind 15", true, Edge.both(scene, heap -> heap.step(15)), RuntimeHeap::isMarking);
    }

    static void promise39FiftyOfFiftyOne() {
        RuntimeHeap heap = new RuntimeHeap();
        rowOfTexts(heap, 40);
        heap.newRow(1, 9);
        for (int place = 0; place < 9; place++) {
            heap.newText(2, 0);
            heap.store(1, place, 2);
        }
        heap.clear(2);
        Check.same("objects", heap.objects(), 51);
        heap.beginMarking();
        Check.same("step(50)", heap.step(50), 50);
        Check.yes("one is left", heap.isMarking());
        Check.same("step(50)", heap.step(50), 1);
        Check.no("none is left", heap.isMarking());
    }

    static void promise39WithAsManyObjectsAsThereCanBe() {
        RuntimeHeap heap = Edge.behind(Fill::mostObjects);
        Check.same("beginMarking", heap.beginMarking(), 2);
        Check.same("step", heap.step(50), 2);
        Check.same("objects", heap.objects(), 2);
        Check.same("full collections", heap.fullCollections(), 2);
    }

    static void promise39EndsAlsoIfThereNeverWasOne() {
        RuntimeHeap heap = new RuntimeHeap();
        heap.newRow(0, 0);
        heap.clear(0);
        heap.beginMarking();
        Check.yes("on till the first step", heap.isMarking());
        Check.same("step", heap.step(1), 0);
        Check.no("then off", heap.isMarking());
        Check.same("what was not TO KEEP is removed", heap.objects(), 0);
        Check.same("full collections", heap.fullCollections(), 1);
    }

    // ---- the PICTURE

    static void promise38ThePictureHoldsWhatFieldsHeldThen() {
        RuntimeHeap heap = new RuntimeHeap();
        heap.newRow(0, 2);
        heap.newText(1, 0);
        heap.store(0, 0, 1);
        heap.newText(2, 0);
        heap.clear(1);
        heap.beginMarking();
        heap.store(0, 0, 7);
        heap.store(0, 1, 2);
        heap.clear(2);
        Check.same("visits", visits(heap), 3);
        Check.yes("what was taken out is TO KEEP", heap.isPresent(1));
        Check.same("it goes by the next one", heap.collectAll(false), 1);
    }

    static void promise38ThePictureHoldsWhatRootsHeldThen() {
        RuntimeHeap heap = new RuntimeHeap();
        heap.newText(0, 0);
        heap.toGlobal(0, 0);
        heap.newText(0, 0);
        heap.push(2);
        heap.newText(1, 0);
        heap.beginMarking();
        heap.pop(0);
        heap.toGlobal(0, 0);
        Check.same("visits", visits(heap), 3);
        Check.same("objects", heap.objects(), 3);
        Check.same("all go by the next one", heap.collectAll(false), 3);
    }

    static void promise38ThePictureHoldsReferentsAndEntriesOfThen() {
        RuntimeHeap heap = new RuntimeHeap();
        heap.newText(0, 0);
        heap.newSoft(1, 0, true);
        heap.newTable(2, 1);
        heap.newText(3, 0);
        heap.put(2, 1, 3);
        heap.clear(0);
        heap.clear(3);
        heap.beginMarking();
        heap.forget(1);
        heap.remove(2, 1);
        Check.same("visits", visits(heap), 4);
        Check.same("objects", heap.objects(), 4);
    }

    static void promise38AnEntryPutLaterIsNotOfThePicture() {
        RuntimeHeap heap = new RuntimeHeap();
        weak(heap);
        heap.newTable(3, 2);
        heap.beginMarking();
        heap.put(3, 0, 0);
        Check.same("the WEAK and the TABLE", visits(heap), 2);
        Check.same("objects", heap.objects(), 2);
    }

    static void promise38WhatIsTakenFromTheRowsWasHeldThen() {
        RuntimeHeap heap = new RuntimeHeap();
        heap.newRow(0, 0);
        heap.newPhantom(0, 0);
        heap.collectAll(false);
        heap.clear(0);
        heap.beginMarking();
        heap.poll(0);
        heap.clear(0);
        Check.same("visits", visits(heap), 1);
        Check.same("objects", heap.objects(), 1);
    }

    // ---- NEW

    static void promise39NewOnesAreKeptNotVisited() {
        RuntimeHeap heap = new RuntimeHeap();
        heap.newText(0, 0);
        heap.beginMarking();
        heap.newText(1, 0);
        heap.newRow(2, 0);
        clearAll(heap);
        Check.same("visits", visits(heap), 1);
        Check.same("objects", heap.objects(), 3);
        Check.same("the next one removes all", heap.collectAll(false), 3);
    }

    static void promise39ANewFinalOneIsStrong() {
        RuntimeHeap heap = new RuntimeHeap();
        heap.defineKind(-1, 0, 0, true);
        heap.newObject(0, 0);
        heap.clear(0);
        heap.beginMarking();
        heap.newObject(0, 0);
        heap.clear(0);
        heap.step(1);
        Check.same("only the one that is not", heap.takeLast(0), 0);
        Check.same("lasts", heap.lasts(), 0);
        Check.yes("the NEW one is PRESENT", heap.isPresent(1));
    }

    static void promise39AWeakOfANewOneIsNotCleared() {
        RuntimeHeap heap = new RuntimeHeap();
        heap.beginMarking();
        heap.newRow(0, 0);
        heap.newWeak(1, 0, true);
        heap.clear(0);
        heap.step(1);
        Check.no("the WEAK", heap.isCleared(1));
        heap.collectAll(false);
        Check.yes("by the next one", heap.isCleared(1));
    }

    static void promise39NewCountsForThisMarkingOnly() {
        RuntimeHeap heap = new RuntimeHeap();
        heap.beginMarking();
        heap.newRow(0, 0);
        heap.step(1);
        heap.clear(0);
        heap.beginMarking();
        heap.step(1);
        Check.same("objects", heap.objects(), 0);
    }

    static void promise39ReadImageMakesNewOnes() {
        RuntimeHeap heap = new RuntimeHeap();
        heap.newRow(0, 0);
        heap.writeImage(0);
        heap.beginMarking();
        heap.readImage(0);
        heap.clear(0);
        Check.same("visits", visits(heap), 1);
        Check.same("objects", heap.objects(), 2);
    }

    // ---- READ

    static void promise22ReadWhileMarkingIsToKeepWithAllThatItReaches() {
        RuntimeHeap heap = Edge.behind(MarkingEdgesTest::weak);
        heap.beginMarking();
        heap.read(1, 0);
        heap.clear(1);
        Check.same("the WEAK, its referent, the TEXT", visits(heap), 3);
        Check.no("the WEAK", heap.isCleared(0));
        Check.same("it goes by the next one", heap.collectAll(false), 2);
    }

    static void promise22NotReadWhileMarkingGoes() {
        RuntimeHeap heap = Edge.behind(MarkingEdgesTest::weak);
        heap.beginMarking();
        Check.same("only the WEAK", visits(heap), 1);
        Check.yes("the WEAK", heap.isCleared(0));
        Check.same("objects", heap.objects(), 1);
    }

    static void promise22ReadTwiceCountsOnce() {
        RuntimeHeap heap = Edge.behind(MarkingEdgesTest::weak);
        heap.beginMarking();
        heap.read(1, 0);
        heap.read(2, 0);
        Check.same("visits", visits(heap), 3);
    }

    static void promise22ReadAheadOfMarkingDoesNotCount() {
        RuntimeHeap heap = Edge.behind(MarkingEdgesTest::weak);
        heap.read(1, 0);
        heap.clear(1);
        heap.beginMarking();
        Check.same("visits", visits(heap), 1);
    }

    static void promise22ReadCountsForThisMarkingOnly() {
        RuntimeHeap heap = Edge.behind(MarkingEdgesTest::weak);
        heap.beginMarking();
        heap.read(1, 0);
        heap.clear(1);
        visits(heap);
        heap.beginMarking();
        Check.same("visits", visits(heap), 1);
        Check.yes("the WEAK", heap.isCleared(0));
    }

    static void promise22ReadBehindTheLastButOneVisitHasToBeVisited() {
        RuntimeHeap heap = Edge.behind(MarkingEdgesTest::weak);
        heap.newText(3, 0);
        heap.beginMarking();
        Check.same("one of two", heap.step(1), 1);
        heap.read(1, 0);
        Check.same("now three are left", heap.step(2), 2);
        Check.yes("isMarking", heap.isMarking());
        Check.same("the last one", heap.step(1), 1);
        Check.no("isMarking", heap.isMarking());
    }

    static void promise22AReadOneOfWhichMarkingKnowsAddsNothing() {
        RuntimeHeap heap = new RuntimeHeap();
        heap.newText(0, 0);
        heap.newWeak(1, 0, true);
        heap.beginMarking();
        heap.read(2, 1);
        Check.same("visits", visits(heap), 2);
    }

    static void promise22ANewReadOneIsNotVisited() {
        RuntimeHeap heap = new RuntimeHeap();
        heap.beginMarking();
        heap.newRow(0, 0);
        heap.newWeak(1, 0, true);
        heap.read(2, 1);
        Check.same("visits", heap.step(50), 0);
        Check.no("isMarking", heap.isMarking());
    }

    static void promise22ReadOfAClearedOneAddsNothing() {
        RuntimeHeap heap = Edge.behind(MarkingEdgesTest::weak);
        heap.forget(0);
        heap.beginMarking();
        heap.read(1, 0);
        Check.same("visits", visits(heap), 1);
    }

    static void promise22WhatAReadOneReachesIsThatOfThePicture() {
        RuntimeHeap heap = Edge.behind(MarkingEdgesTest::weak);
        heap.newText(3, 0);
        heap.newWeak(4, 3, true);
        heap.clear(3);
        heap.beginMarking();
        heap.read(1, 0);
        heap.store(1, 0, 7);
        Check.same("the two WEAKs, the ROW, and the TEXT that it held then", visits(heap), 4);
        Check.yes("that TEXT", heap.isPresent(1));
        Check.no("the other one", heap.isPresent(3));
    }

    static void promise22WhatOthersHoldByNowDoesNotComeInByAReadOne() {
        RuntimeHeap heap = Edge.behind(MarkingEdgesTest::weak);
        heap.newRow(3, 1);
        heap.beginMarking();
        heap.newText(4, 0);
        heap.store(3, 0, 4);
        heap.read(5, 0);
        Check.same("WEAK, ROW, TEXT and the ROW of slot 3, not what that holds by now", visits(heap), 4);
    }

    static void promise22WhatAPlainOrATableHoldsByNowDoesNotComeInByAReadOne() {
        RuntimeHeap heap = Edge.behind(MarkingEdgesTest::weak);
        heap.newObject(3, heap.defineKind(-1, 1, 0, false));
        heap.newTable(4, 2);
        heap.put(4, 3, 7);
        heap.beginMarking();
        heap.newText(5, 0);
        heap.store(3, 0, 5);
        heap.put(4, 3, 5);
        heap.read(6, 0);
        Check.same("WEAK, ROW, TEXT, PLAIN and TABLE, not the NEW one", visits(heap), 5);
        Check.same("objects", heap.objects(), 6);
    }

    static void promise22AReadKeyAndATableOfTheRootsReachTheValueTogether() {
        RuntimeHeap heap = new RuntimeHeap();
        heap.newTable(0, 1);
        heap.newRow(1, 0);
        heap.newRow(2, 0);
        heap.put(0, 1, 2);
        heap.newWeak(3, 1, true);
        heap.clear(1);
        heap.clear(2);
        heap.beginMarking();
        heap.read(4, 3);
        heap.clear(4);
        Check.same("TABLE, WEAK, key, value", visits(heap), 4);
        Check.same("entries", heap.entriesOf(0), 1);
        Check.same("objects", heap.objects(), 4);
    }

    static void promise22ARefusedReadIsNotRead() {
        Edge.Act scene = Edge.both(MarkingEdgesTest::weak, RuntimeHeap::beginMarking);
        Edge.noIndex("to 8", scene, heap -> heap.read(8, 0));
        Edge.noIndex("to -1", scene, heap -> heap.read(-1, 0));
        RuntimeHeap heap = Edge.behind(scene);
        Check.noIndex(heap, "to 8", () -> heap.read(8, 0));
        Check.same("visits", visits(heap), 1);
    }

    static void promise30WhatARefusedInternWouldFindIsNotRead() {
        RuntimeHeap heap = Edge.behind(MarkingEdgesTest::unreachedInterned);
        heap.newText(1, 2);
        heap.beginMarking();
        Check.noIndex(heap, "to 8", () -> heap.intern(8, 1));
        Check.noIndex(heap, "to 8", () -> heap.readImage(8));
        Check.same("only the other TEXT", visits(heap), 1);
        Check.no("the INTERNED one", heap.isPresent(0));
    }

    static void promise22ASoftIsReadLikeAWeak() {
        // The SOFT is itself reached by nothing but a WEAK; read, it leads on to its referent, not PRESSED.
        RuntimeHeap heap = new RuntimeHeap();
        heap.newRow(0, 0);
        heap.newSoft(0, 0, true);
        heap.newWeak(1, 0, true);
        heap.clear(0);
        heap.beginMarking();
        Check.same("read", heap.read(0, 1), 1);
        Check.same("WEAK, SOFT, ROW", visits(heap), 3);
        Check.same("objects", heap.objects(), 3);
    }

    private static void unreachedInterned(RuntimeHeap heap) {
        heap.newText(0, 2);
        heap.intern(0, 0);
        heap.writeImage(0);
        heap.clear(0);
    }

    static void promise30WhatInternFindsIsRead() {
        RuntimeHeap heap = Edge.behind(MarkingEdgesTest::unreachedInterned);
        heap.newText(1, 2);
        heap.beginMarking();
        Check.same("intern", heap.intern(2, 1), 0);
        heap.clear(2);
        Check.same("the TEXT and the INTERNED one", visits(heap), 2);
        Check.yes("the INTERNED one", heap.isPresent(0));
    }

    static void promise30WhatBecomesInternedIsNotRead() {
        RuntimeHeap heap = new RuntimeHeap();
        heap.beginMarking();
        heap.newText(1, 2);
        heap.intern(1, 1);
        Check.same("visits", heap.step(1), 0);
        Check.same("interned", heap.interned(), 1);
    }

    static void promise34WhatReadImageFindsIsRead() {
        RuntimeHeap heap = Edge.behind(MarkingEdgesTest::unreachedInterned);
        heap.beginMarking();
        Check.same("readImage", heap.readImage(1), 0);
        heap.clear(1);
        Check.same("visits", visits(heap), 1);
        Check.yes("it", heap.isPresent(0));
    }

    static void promise34WhatReadImageMakesIsNewNotRead() {
        RuntimeHeap heap = Edge.behind(MarkingEdgesTest::unreachedInterned);
        heap.collectAll(false);
        heap.beginMarking();
        Check.same("readImage", heap.readImage(1), 1);
        Check.same("once more", heap.readImage(1), 1);
        Check.same("visits", heap.step(50), 0);
        Check.same("interned", heap.interned(), 1);
    }

    // ---- the end of marking

    static void promise39TheCollectionAtTheEndIsNotPressed() {
        RuntimeHeap heap = new RuntimeHeap();
        heap.newRow(0, 0);
        heap.newSoft(0, 0, true);
        heap.beginMarking();
        Check.same("visits", visits(heap), 2);
        Check.no("the SOFT", heap.isCleared(0));
    }

    static void promise39NewOnesOfEachFormAreKeptNotVisited() {
        RuntimeHeap heap = new RuntimeHeap();
        heap.defineKind(-1, 0, 0, false);
        heap.beginMarking();
        heap.newObject(0, 0);
        heap.newRow(1, 0);
        heap.newText(2, 0);
        heap.newWeak(3, 0, true);
        heap.newSoft(4, 0, true);
        heap.newPhantom(5, 0);
        heap.newTable(6, 1);
        clearAll(heap);
        Check.same("visits", heap.step(50), 0);
        for (int number = 0; number <= 6; number++) {
            Check.yes("number " + number, heap.isPresent(number));
        }
        Check.same("none is STRONG by the next one", heap.collectAll(false), 7);
    }

    static void promise39AtTheEndEntriesVanishWithTheirKeys() {
        RuntimeHeap heap = new RuntimeHeap();
        heap.newTable(0, 2);
        heap.newRow(1, 0);
        heap.newText(2, 0);
        heap.put(0, 1, 2);
        heap.put(0, 2, 1);
        heap.put(0, 0, 0);
        heap.clear(1);
        heap.clear(2);
        heap.beginMarking();
        Check.same("only the TABLE", visits(heap), 1);
        Check.same("entries", heap.entriesOf(0), 0);
        Check.same("objects", heap.objects(), 1);
    }

    static void promise39TheCollectionAtTheEndMakesOldWhatFits() {
        RuntimeHeap heap = new RuntimeHeap();
        heap.newRow(0, 30);
        heap.beginMarking();
        heap.newRow(1, 30);
        visits(heap);
        Check.yes("one TO KEEP", heap.isOld(0));
        Check.yes("a NEW one", heap.isOld(1));
        Check.same("age", heap.ageOf(0), 0);
    }

    static void promise39AReferentThatIsNotToKeepIsClearedAtTheEnd() {
        RuntimeHeap heap = new RuntimeHeap();
        heap.newRow(0, 0);
        heap.newWeak(1, 0, true);
        heap.newWeak(2, 0, false);
        heap.newPhantom(3, 0);
        heap.clear(0);
        heap.beginMarking();
        visits(heap);
        Check.same("WEAK", heap.poll(4), 1);
        Check.same("PHANTOM", heap.poll(4), 3);
        Check.same("the other is not QUEUED", heap.poll(4), -1);
        Check.yes("but cleared", heap.isCleared(2));
    }

    static void promise39AReferentThatWasHeldByThePictureIsNotCleared() {
        RuntimeHeap heap = new RuntimeHeap();
        heap.newRow(0, 0);
        heap.newWeak(1, 0, true);
        heap.beginMarking();
        heap.clear(0);
        visits(heap);
        Check.no("the WEAK", heap.isCleared(1));
        Check.same("its referent goes by the next one", heap.collectAll(false), 1);
    }

    static void promise39AtTheEndFinalOnesThatAreNotStrongAreFinalized() {
        RuntimeHeap heap = new RuntimeHeap();
        heap.defineKind(-1, 1, 0, true);
        heap.newObject(0, 0);
        heap.newRow(1, 0);
        heap.store(0, 0, 1);
        heap.newWeak(2, 1, true);
        heap.clear(0);
        heap.clear(1);
        heap.beginMarking();
        Check.same("only the WEAK", visits(heap), 1);
        Check.same("lasts", heap.lasts(), 1);
        Check.yes("what it holds is KEPT", heap.isPresent(1));
        Check.yes("but not STRONG", heap.isCleared(2));
    }

    static void promise39AtTheEndASoftOfAFinalOneKeepsItsReferentButIsCleared() {
        RuntimeHeap heap = new RuntimeHeap();
        heap.defineKind(-1, 1, 0, true);
        heap.newObject(0, 0);
        heap.newText(1, 0);
        heap.newSoft(1, 1, true);
        heap.store(0, 0, 1);
        clearAll(heap);
        heap.beginMarking();
        Check.same("none is TO KEEP", heap.step(1), 0);
        Check.same("objects", heap.objects(), 3);
        Check.same("the SOFT, its referent not being STRONG", heap.poll(0), 2);
        Check.yes("cleared", heap.isCleared(0));
    }

    static void promise39ARemovedEntryOfThePictureDoesNotComeBack() {
        RuntimeHeap heap = new RuntimeHeap();
        heap.newTable(0, 1);
        heap.newText(1, 0);
        heap.put(0, 1, 1);
        heap.beginMarking();
        heap.remove(0, 1);
        visits(heap);
        Check.same("entries", heap.entriesOf(0), 0);
    }

    static void promise39TheEndAnswersVisitsNotRemovals() {
        RuntimeHeap heap = new RuntimeHeap();
        heap.newRow(0, 0);
        for (int i = 0; i < 5; i++) {
            heap.newRow(1, 0);
        }
        heap.clear(1);
        heap.beginMarking();
        Check.same("step", heap.step(50), 1);
        Check.same("objects", heap.objects(), 1);
    }
}
