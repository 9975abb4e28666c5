/** Boundary cases of the promises 35 to 37: TENURE, young and full collections. */
final class CollectingEdgesTest {
    private static final Class<IllegalArgumentException> ARGUMENT = IllegalArgumentException.class;

    public static void main(String[] args) {
        Check.runAll(CollectingEdgesTest.class);
    }

    private static void clearAll(RuntimeHeap heap) {
        for (int slot = 0; slot < heap.slots(); slot++) {
            heap.clear(slot);
        }
    }

    private static void collections(RuntimeHeap heap, int young, int full) {
        Check.same("young collections", heap.youngCollections(), young);
        Check.same("full collections", heap.fullCollections(), full);
    }

    /** A kind 0 that is FINAL with 2 reference fields, and a kind 1 that is not. */
    private static RuntimeHeap withKinds() {
        RuntimeHeap heap = new RuntimeHeap();
        heap.defineKind(-1, 2, 0, true);
        heap.defineKind(-1, 2, 0, false);
        return heap;
    }

    // ---- promise 35

    static void promise35AgeIsOneToFour() {
        Edge.range(ARGUMENT, "setTenure", 1, 4, heap -> heap.newRow(0, 0), RuntimeHeap::setTenure);
    }

    static void promise35WhatItWas() {
        RuntimeHeap heap = new RuntimeHeap();
        Check.same("2 at first", heap.setTenure(1), 2);
        Check.same("the least", heap.setTenure(4), 1);
        Check.same("the greatest", heap.setTenure(4), 4);
        Check.badArgument(heap, "5", () -> heap.setTenure(5));
        Check.same("a refused one changes nothing", heap.tenure(), 4);
    }

    static void promise35OldAtTheAgeOfTenureNotAhead() {
        for (int tenure = 1; tenure <= 4; tenure++) {
            RuntimeHeap heap = new RuntimeHeap();
            heap.setTenure(tenure);
            heap.newRow(0, 0);
            for (int age = 1; age <= tenure; age++) {
                Check.no("OLD of age " + (age - 1) + " by TENURE " + tenure, heap.isOld(0));
                heap.collectYoung();
                Check.same("age", heap.ageOf(0), age);
            }
            Check.yes("OLD of age " + tenure, heap.isOld(0));
            heap.collectYoung();
            Check.same("the age of an OLD one stays", heap.ageOf(0), tenure);
        }
    }

    static void promise35TwoWithoutBeingSet() {
        RuntimeHeap heap = new RuntimeHeap();
        heap.newRow(0, 0);
        heap.collectYoung();
        Check.no("age 1", heap.isOld(0));
        heap.collectYoung();
        Check.yes("age 2", heap.isOld(0));
    }

    static void promise35LoweredBelowTheAgeItWorksByTheNextCollection() {
        RuntimeHeap heap = new RuntimeHeap();
        heap.setTenure(4);
        heap.newRow(0, 0);
        for (int i = 0; i < 3; i++) {
            heap.collectYoung();
        }
        heap.setTenure(1);
        Check.no("not by being set", heap.isOld(0));
        heap.collectYoung();
        Check.yes("age 4 is more than TENURE", heap.isOld(0));
        Check.same("age", heap.ageOf(0), 4);
    }

    // ---- promise 36

    static void promise36RefusedWhileMarkingIsOn() {
        Edge.badState("marking of something", heap -> {
            heap.newRow(0, 0);
            heap.beginMarking();
        }, RuntimeHeap::collectYoung);
        Edge.badState("marking of nothing", RuntimeHeap::beginMarking, RuntimeHeap::collectYoung);
        Edge.answers("behind the end of marking", 0, heap -> {
            heap.beginMarking();
            heap.step(1);
        }, RuntimeHeap::collectYoung);
    }

    static void promise36OfAnEmptyMemory() {
        RuntimeHeap heap = new RuntimeHeap();
        Check.same("collectYoung", heap.collectYoung(), 0);
        collections(heap, 1, 0);
    }

    static void promise36NoneAndAllAreRemoved() {
        RuntimeHeap heap = new RuntimeHeap();
        for (int slot = 0; slot < 8; slot++) {
            heap.newRow(slot, 0);
        }
        Check.same("none", heap.collectYoung(), 0);
        clearAll(heap);
        Check.same("all", heap.collectYoung(), 8);
        Check.same("objects", heap.objects(), 0);
        Check.same("young words", heap.youngWords(), 0);
    }

    static void promise36ThreeHundredAndTwentyWordsAreYoungMoreIsFull() {
        int[] old = {320, 224, 318, 319, 225, 320};
        int[] young = {0, 96, 2, 2, 96, 2};
        for (int i = 0; i < old.length; i++) {
            RuntimeHeap heap = new RuntimeHeap();
            Fill.words(heap, old[i], young[i]);
            boolean isFull = old[i] + young[i] > 320;
            Check.same("collectYoung of " + old[i] + " and " + young[i], heap.collectYoung(), 0);
            collections(heap, isFull ? 0 : 1, isFull ? 1 : 0);
        }
    }

    static void promise36TheFullOneInsteadRemovesOldOnesAndAgesNone() {
        RuntimeHeap heap = new RuntimeHeap();
        Fill.words(heap, 320, 2);
        heap.pop(0);
        heap.clear(1);
        Check.same("the OLD row goes", heap.collectYoung(), 2);
        heap.fromGlobal(0, 0);
        Check.yes("the YOUNG one is OLD", heap.isOld(0));
        Check.same("its age", heap.ageOf(0), 0);
        collections(heap, 0, 1);
    }

    static void promise36TheFullOneInsteadIsNotPressed() {
        RuntimeHeap heap = new RuntimeHeap();
        heap.newRow(0, 0);
        heap.newSoft(0, 0, true);
        heap.toGlobal(7, 0);
        Fill.words(heap, 316, 5);
        heap.collectYoung();
        collections(heap, 0, 1);
        heap.fromGlobal(0, 7);
        Check.no("the SOFT", heap.isCleared(0));
    }

    static void promise36OldOnesHoldAlsoIfTheyAreNotReached() {
        RuntimeHeap heap = new RuntimeHeap();
        heap.newRow(0, 31);
        heap.newRow(1, 0);
        heap.store(0, 30, 1);
        clearAll(heap);
        Check.same("neither goes", heap.collectYoung(), 0);
        Check.no("isReached", heap.isReached(1));
        Check.same("by a full one both go", heap.collectAll(false), 2);
    }

    static void promise36AnOldTableHoldsOnlyTheValuesOfReachedKeys() {
        RuntimeHeap heap = new RuntimeHeap();
        heap.newTable(0, 16);
        heap.newText(1, 0);
        heap.newText(2, 0);
        heap.newText(3, 0);
        heap.newText(4, 0);
        heap.put(0, 1, 2);
        heap.put(0, 3, 4);
        heap.clear(2);
        heap.clear(3);
        heap.clear(4);
        Check.same("a key and its value go", heap.collectYoung(), 2);
        Check.same("entries", heap.entriesOf(0), 1);
        Check.same("the other value", heap.get(5, 0, 1), 2);
    }

    static void promise36AWeakOfAnOldUnreachedOneIsNotCleared() {
        RuntimeHeap heap = new RuntimeHeap();
        heap.newRow(0, 40);
        heap.newWeak(1, 0, true);
        heap.newPhantom(2, 0);
        heap.newSoft(3, 0, true);
        heap.clear(0);
        Check.same("none goes", heap.collectYoung(), 0);
        Check.same("queued", heap.queued(), 0);
        Check.no("the WEAK", heap.isCleared(1));
    }

    static void promise36AWeakOfAYoungUnreachedOneIsCleared() {
        RuntimeHeap heap = new RuntimeHeap();
        heap.newRow(0, 0);
        heap.newWeak(1, 0, true);
        heap.newPhantom(2, 0);
        heap.clear(0);
        Check.same("it goes", heap.collectYoung(), 1);
        Check.same("WEAK", heap.poll(3), 1);
        Check.same("PHANTOM", heap.poll(3), 2);
    }

    static void promise36AnOldUnreachedFinalOneIsLeftAlone() {
        RuntimeHeap heap = withKinds();
        heap.newObject(0, 0);
        heap.newObject(1, 0);
        heap.setTenure(1);
        heap.collectYoung();
        heap.newObject(2, 0);
        clearAll(heap);
        Check.same("none goes", heap.collectYoung(), 0);
        Check.same("only the YOUNG one is FINALIZED", heap.lasts(), 1);
        Check.same("it", heap.takeLast(0), 2);
        heap.collectAll(false);
        Check.same("by a full one the others", heap.lasts(), 2);
    }

    static void promise36WhatAnOldUnreachedOneHoldsIsStrong() {
        RuntimeHeap heap = withKinds();
        heap.newRow(0, 31);
        heap.newObject(1, 0);
        heap.newRow(2, 0);
        heap.newSoft(2, 2, true);
        heap.store(0, 0, 1);
        heap.store(0, 1, 2);
        clearAll(heap);
        Check.same("none goes, not by a SOFT either", heap.collectYoung(), 0);
        Check.same("a FINAL one is not FINALIZED", heap.lasts(), 0);
        Check.same("the SOFT is not cleared", heap.queued(), 0);
    }

    static void promise36AReferenceThatOnlyAnOldUnreachedOneHoldsIsClearedAndQueued() {
        RuntimeHeap heap = new RuntimeHeap();
        heap.newRow(0, 31);
        heap.newText(1, 0);
        heap.newPhantom(2, 1);
        heap.newWeak(3, 1, true);
        heap.store(0, 0, 2);
        heap.store(0, 1, 3);
        clearAll(heap);
        Check.same("only the TEXT goes", heap.collectYoung(), 1);
        Check.same("the PHANTOM", heap.poll(0), 2);
        Check.same("the WEAK", heap.poll(0), 3);
        Check.same("no other", heap.poll(0), -1);
    }

    static void promise36NothingOfARemovedOldOneIsLeft() {
        RuntimeHeap heap = new RuntimeHeap();
        heap.newRow(0, 40);
        heap.newRow(1, 0);
        heap.store(0, 0, 1);
        clearAll(heap);
        Check.same("both go", heap.collectAll(false), 2);
        Check.same("none is there", heap.collectYoung(), 0);
        heap.newRow(0, 0);
        heap.clear(0);
        Check.same("it is not held where the others were", heap.collectYoung(), 1);
    }

    static void promise36NotPressed() {
        RuntimeHeap heap = new RuntimeHeap();
        heap.newRow(0, 0);
        heap.newSoft(0, 0, true);
        Check.same("a SOFT holds", heap.collectYoung(), 0);
        Check.no("the SOFT", heap.isCleared(0));
    }

    static void promise36EveryYoungOneIsOneOlderReachedFromWhatever() {
        RuntimeHeap heap = withKinds();
        heap.setTenure(4);
        heap.newObject(0, 0);
        heap.clear(0);
        heap.newRow(1, 0);
        heap.newWeak(1, 1, true);
        heap.collectYoung();
        heap.takeLast(0);
        heap.poll(2);
        Check.same("one of the LAST ROW", heap.ageOf(0), 1);
        Check.same("one of the QUEUE", heap.ageOf(2), 1);
        heap.newRow(3, 0);
        heap.collectYoung();
        Check.same("the older one", heap.ageOf(0), 2);
        Check.same("the younger one", heap.ageOf(3), 1);
    }

    static void promise36AllThatBecomeOldFit() {
        RuntimeHeap heap = new RuntimeHeap();
        heap.setTenure(1);
        Fill.words(heap, 224, 96);
        heap.collectYoung();
        Check.same("old words", heap.oldWords(), 320);
        Check.same("young words", heap.youngWords(), 0);
        collections(heap, 1, 0);
    }

    // ---- promise 37

    static void promise37RefusedWhileMarkingIsOn() {
        for (int isPressed = 0; isPressed <= 1; isPressed++) {
            boolean pressed = isPressed == 1;
            Edge.badState("marking of something", heap -> {
                heap.newRow(0, 0);
                heap.beginMarking();
            }, heap -> heap.collectAll(pressed));
            Edge.badState("marking of nothing", RuntimeHeap::beginMarking, heap -> heap.collectAll(pressed));
            Edge.answers("behind the end of marking", 0, heap -> {
                heap.beginMarking();
                heap.step(1);
            }, heap -> heap.collectAll(pressed));
        }
    }

    static void promise37OfAnEmptyMemory() {
        RuntimeHeap heap = new RuntimeHeap();
        Check.same("not PRESSED", heap.collectAll(false), 0);
        Check.same("PRESSED", heap.collectAll(true), 0);
        collections(heap, 0, 2);
    }

    static void promise37NoneAndAllAreRemoved() {
        RuntimeHeap heap = new RuntimeHeap();
        for (int slot = 0; slot < 8; slot++) {
            heap.newRow(slot, slot * 5);
        }
        Check.same("none", heap.collectAll(true), 0);
        clearAll(heap);
        Check.same("all", heap.collectAll(false), 8);
        Check.same("old words", heap.oldWords(), 0);
    }

    static void promise37RootsOfEveryKindHold() {
        RuntimeHeap heap = withKinds();
        heap.newObject(0, 0);
        heap.clear(0);
        heap.newRow(0, 0);
        heap.newPhantom(1, 0);
        heap.clear(0);
        heap.collectAll(false);
        clearAll(heap);
        heap.newRow(7, 0);
        heap.push(1);
        heap.newRow(0, 0);
        heap.toGlobal(7, 0);
        heap.newRow(0, 0);
        Check.same("LAST ROW, QUEUE, a lower frame, a global, the top frame", heap.collectAll(true), 0);
        Check.same("objects", heap.objects(), 5);
    }

    static void promise37StepTwoTakesFinalOnesOnlyOnce() {
        RuntimeHeap heap = withKinds();
        heap.newObject(0, 0);
        heap.clear(0);
        Check.same("the first time none goes", heap.collectAll(false), 0);
        Check.same("the LAST ROW holds it", heap.collectAll(false), 0);
        Check.same("lasts", heap.lasts(), 1);
        heap.takeLast(0);
        Check.yes("FINALIZED for good", heap.isFinalized(0));
        heap.clear(0);
        Check.same("the second time it goes", heap.collectAll(false), 1);
        Check.same("lasts", heap.lasts(), 0);
    }

    static void promise37StepTwoByRisingNumbersBehindThoseThatWait() {
        RuntimeHeap heap = withKinds();
        for (int slot = 0; slot < 4; slot++) {
            heap.newObject(slot, 0);
        }
        heap.clear(2);
        heap.collectAll(false);
        heap.store(3, 0, 1);
        heap.store(1, 0, 0);
        clearAll(heap);
        heap.collectAll(false);
        int[] due = {2, 0, 1, 3};
        for (int number : due) {
            Check.same("takeLast", heap.takeLast(0), number);
        }
    }

    static void promise37StepTwoIsForFinalOnesThatAreNotStrong() {
        RuntimeHeap heap = withKinds();
        heap.newObject(0, 0);
        heap.newObject(1, 1);
        heap.newObject(2, 0);
        heap.newSoft(3, 2, false);
        heap.clear(1);
        heap.clear(2);
        Check.same("one that is not FINAL goes", heap.collectAll(false), 1);
        Check.same("a reached one, one reached by a SOFT", heap.lasts(), 0);
        Check.same("PRESSED", heap.collectAll(true), 0);
        Check.same("the one reached by a SOFT", heap.takeLast(4), 2);
        Check.yes("the SOFT, its referent not being STRONG", heap.isCleared(3));
    }

    static void promise37StepThreeKeepsWhatFinalOnesReach() {
        RuntimeHeap heap = withKinds();
        heap.newObject(0, 0);
        heap.newObject(1, 1);
        heap.newRow(2, 1);
        heap.newText(3, 0);
        heap.store(0, 1, 1);
        heap.store(1, 1, 2);
        heap.store(2, 0, 3);
        clearAll(heap);
        Check.same("none goes", heap.collectAll(true), 0);
        heap.takeLast(0);
        heap.clear(0);
        Check.same("all go", heap.collectAll(true), 4);
    }

    static void promise37StepThreePressedDoesNotKeepBySoft() {
        RuntimeHeap heap = withKinds();
        heap.newObject(0, 0);
        heap.newRow(1, 0);
        heap.newSoft(1, 1, true);
        heap.store(0, 0, 1);
        clearAll(heap);
        Check.same("the ROW goes", heap.collectAll(true), 1);
        Check.same("the SOFT is KEPT, so it is QUEUED", heap.poll(0), 2);
    }

    static void promise37StepFourAWeakNeedsAStrongReferentAPhantomAKeptOne() {
        RuntimeHeap heap = withKinds();
        heap.newObject(0, 0);
        heap.newRow(1, 0);
        heap.store(0, 0, 1);
        heap.newWeak(2, 1, true);
        heap.newSoft(3, 1, true);
        heap.newPhantom(4, 1);
        heap.clear(0);
        heap.clear(1);
        heap.clear(3);
        Check.same("the SOFT goes", heap.collectAll(true), 1);
        Check.yes("the WEAK", heap.isCleared(2));
        Check.no("the PHANTOM", heap.isCleared(4));
        Check.same("queued", heap.queued(), 1);
        heap.takeLast(0);
        heap.clear(0);
        heap.collectAll(true);
        Check.yes("the PHANTOM, when its referent goes", heap.isCleared(4));
        Check.same("queued", heap.queued(), 2);
    }

    static void promise37StepFourASoftThatIsKeptButNotStrong() {
        RuntimeHeap heap = withKinds();
        heap.newObject(0, 0);
        heap.newRow(1, 0);
        heap.newSoft(2, 1, true);
        heap.store(0, 0, 2);
        heap.newPhantom(3, 1);
        heap.clear(0);
        heap.clear(1);
        heap.clear(2);
        Check.same("the referent is KEPT", heap.collectAll(false), 0);
        Check.same("but not STRONG: cleared", heap.poll(4), 2);
        Check.no("the PHANTOM is not", heap.isCleared(3));
    }

    static void promise37StepFourReferencesThatGoAreNotQueued() {
        RuntimeHeap heap = new RuntimeHeap();
        heap.newRow(0, 0);
        heap.newWeak(1, 0, true);
        heap.newPhantom(2, 0);
        clearAll(heap);
        Check.same("all go", heap.collectAll(false), 3);
        Check.same("queued", heap.queued(), 0);
    }

    static void promise37StepFourThoseClearedEarlierAreNotQueued() {
        RuntimeHeap heap = new RuntimeHeap();
        heap.newRow(0, 0);
        heap.newWeak(1, 0, true);
        heap.newWeak(2, 0, true);
        heap.forget(1);
        heap.clear(0);
        heap.collectAll(false);
        Check.same("the other one", heap.poll(3), 2);
        Check.same("only that", heap.poll(3), -1);
        heap.collectAll(false);
        Check.same("nor by the next one", heap.queued(), 0);
    }

    static void promise37StepFourByRisingNumbersOfAllForms() {
        RuntimeHeap heap = new RuntimeHeap();
        heap.newRow(0, 0);
        heap.newSoft(3, 0, true);
        heap.newPhantom(2, 0);
        heap.newWeak(1, 0, true);
        heap.newPhantom(4, 0);
        heap.clear(0);
        heap.collectAll(true);
        for (int number = 1; number <= 4; number++) {
            Check.same("poll", heap.poll(0), number);
        }
    }

    static void promise37StepFourASoftOfASoft() {
        RuntimeHeap heap = new RuntimeHeap();
        heap.newRow(0, 0);
        heap.newSoft(0, 0, true);
        heap.newSoft(0, 0, true);
        Check.same("SOFT of a SOFT of a ROW", heap.collectAll(false), 0);
        Check.same("PRESSED, both referents go", heap.collectAll(true), 2);
        Check.same("only the one that is KEPT is QUEUED", heap.queued(), 1);
    }

    static void promise37AWeakOfWhatASoftHolds() {
        RuntimeHeap heap = new RuntimeHeap();
        heap.newRow(0, 0);
        heap.newWeak(1, 0, true);
        heap.newSoft(2, 0, true);
        heap.clear(0);
        heap.collectAll(false);
        Check.no("not PRESSED", heap.isCleared(1));
        heap.collectAll(true);
        Check.yes("PRESSED", heap.isCleared(1));
    }

    static void promise37PressedOnlyWhereNothingElseHolds() {
        RuntimeHeap heap = new RuntimeHeap();
        heap.newRow(0, 0);
        heap.newSoft(1, 0, true);
        Check.same("the slot holds it", heap.collectAll(true), 0);
        Check.no("the SOFT", heap.isCleared(1));
    }

    static void promise37StepFiveEntriesVanishWithTheirKeys() {
        RuntimeHeap heap = new RuntimeHeap();
        heap.newTable(0, 16);
        heap.newRow(1, 16);
        for (int i = 0; i < 16; i++) {
            heap.newText(2, 0);
            heap.put(0, 2, 7);
            heap.store(1, i, 2);
        }
        heap.clear(2);
        heap.store(1, 0, 7);
        heap.store(1, 15, 7);
        Check.same("two keys go", heap.collectAll(false), 2);
        Check.same("entries", heap.entriesOf(0), 14);
        heap.clear(1);
        Check.same("all the others and the ROW go", heap.collectAll(false), 15);
        Check.same("entries", heap.entriesOf(0), 0);
    }

    static void promise37StepFiveAKeyThatOnlyItsOwnValueHoldsVanishes() {
        RuntimeHeap heap = new RuntimeHeap();
        heap.newTable(0, 2);
        heap.newRow(1, 1);
        heap.newText(2, 0);
        heap.store(1, 0, 2);
        heap.put(0, 2, 1);
        heap.put(0, 1, 2);
        heap.clear(1);
        heap.clear(2);
        Check.same("both go", heap.collectAll(false), 2);
        Check.same("entries", heap.entriesOf(0), 0);
    }

    static void promise37StepFiveAChainOfEntriesIsReachedFromItsFirstKey() {
        // Each table's entry leads to the key of the one ahead of it, so the last one made has to be looked at first.
        RuntimeHeap heap = new RuntimeHeap();
        heap.newRow(0, 16);
        heap.newText(1, 0);
        for (int i = 0; i < 16; i++) {
            heap.newTable(2, 1);
            heap.store(0, i, 2);
            heap.newText(3, 0);
            heap.put(2, 3, 1);
            heap.assign(1, 3);
        }
        heap.clear(1);
        heap.clear(2);
        Check.same("with the key of the last one all are reached", heap.wouldRemove(false), 0);
        Check.yes("the first one made", heap.isReached(1));
        heap.clear(3);
        Check.same("without it all keys and values go", heap.collectAll(false), 17);
    }

    static void promise37StepFiveAKeyThatIsKeptByAFinalOneStays() {
        RuntimeHeap heap = withKinds();
        heap.newTable(0, 1);
        heap.newObject(1, 0);
        heap.newText(2, 0);
        heap.put(0, 1, 2);
        heap.clear(1);
        heap.clear(2);
        Check.same("the FINAL key is KEPT, and so its value", heap.collectAll(false), 0);
        Check.same("entries", heap.entriesOf(0), 1);
        heap.takeLast(1);
        heap.clear(1);
        Check.same("then both go", heap.collectAll(false), 2);
        Check.same("entries", heap.entriesOf(0), 0);
    }

    static void promise37StepFiveATableThatOnlyAFinalOneHolds() {
        RuntimeHeap heap = withKinds();
        heap.newObject(0, 0);
        heap.newTable(1, 2);
        heap.store(0, 0, 1);
        heap.newText(2, 0);
        heap.put(1, 2, 2);
        heap.put(1, 0, 0);
        clearAll(heap);
        Check.same("a key that is not KEPT", heap.collectAll(false), 1);
        heap.takeLast(0);
        heap.load(1, 0, 0);
        Check.same("its entry has vanished", heap.entriesOf(1), 1);
        Check.same("the other is there", heap.get(2, 1, 0), 0);
    }

    static void promise37WhatIsKeptKeepsWhatItHolds() {
        // Each kept object stands between two that go, and behind a TABLE an entry of which vanishes.
        RuntimeHeap heap = withKinds();
        heap.defineKind(1, 0, 2, false);
        heap.newRow(7, 3);
        heap.newText(0, 9);
        heap.newRow(7, 5);
        heap.newTable(1, 1);
        heap.put(1, 7, 7);
        heap.newText(2, 3);
        heap.newRow(7, 1);
        heap.newObject(3, 2);
        heap.newRow(7, 2);
        heap.newRow(4, 2);
        for (int place = 0; place < 9; place++) {
            heap.setByte(0, place, 200 + place);
        }
        for (int place = 0; place < 3; place++) {
            heap.setByte(2, place, 210 + place);
        }
        heap.setNumber(3, 0, 220);
        heap.setNumber(3, 1, 221);
        heap.store(3, 1, 2);
        heap.store(4, 0, 3);
        heap.clear(7);
        Check.same("four go", heap.collectAll(false), 4);
        heap.newText(7, 40);
        for (int place = 0; place < 40; place++) {
            heap.setByte(7, place, 1);
        }
        for (int place = 0; place < 9; place++) {
            Check.same("byte " + place, heap.getByte(0, place), 200 + place);
        }
        for (int place = 0; place < 3; place++) {
            Check.same("byte " + place + " behind the TABLE", heap.getByte(2, place), 210 + place);
        }
        Check.same("number 0", heap.getNumber(3, 0), 220);
        Check.same("number 1", heap.getNumber(3, 1), 221);
        Check.same("field 0", heap.load(5, 3, 0), -1);
        Check.same("field 1", heap.load(5, 3, 1), heap.numberOf(2));
        Check.same("place 0", heap.load(5, 4, 0), heap.numberOf(3));
        Check.same("place 1", heap.load(5, 4, 1), -1);
        Check.same("entries", heap.entriesOf(1), 0);
    }

    static void promise37StepSevenThreeHundredAndTwentyWordsJustFit() {
        RuntimeHeap heap = new RuntimeHeap();
        Fill.words(heap, 300, 20);
        heap.collectAll(false);
        Check.same("old words", heap.oldWords(), 320);
        Check.same("young words", heap.youngWords(), 0);
        RuntimeHeap more = new RuntimeHeap();
        Fill.words(more, 300, 21);
        more.collectAll(false);
        Check.same("with one word more it stays YOUNG", more.oldWords(), 300);
        Check.same("young words", more.youngWords(), 21);
    }

    static void promise37StepSevenALaterSmallerOneMayFit() {
        RuntimeHeap heap = new RuntimeHeap();
        Fill.words(heap, 310, 0);
        heap.newRow(0, 5);
        heap.newRow(1, 2);
        heap.newRow(2, 0);
        heap.newRow(3, 0);
        heap.collectAll(false);
        Check.yes("7 words, 317 in all", heap.isOld(0));
        Check.no("4 words would be 321", heap.isOld(1));
        Check.yes("2 words, 319 in all", heap.isOld(2));
        Check.no("2 words would be 321", heap.isOld(3));
        Check.same("old words", heap.oldWords(), 319);
    }

    static void promise37PressedDoesAllOtherStepsAlike() {
        for (boolean isPressed : new boolean[] {false, true}) {
            RuntimeHeap heap = withKinds();
            heap.newObject(0, 0);
            heap.newTable(1, 2);
            heap.newText(2, 0);
            heap.put(1, 2, 0);
            heap.put(1, 1, 1);
            heap.newWeak(3, 2, true);
            heap.newPhantom(4, 2);
            heap.newWeak(5, 0, true);
            heap.clear(0);
            heap.clear(2);
            Check.same("removed", heap.collectAll(isPressed), 1);
            Check.same("the LAST ROW", heap.takeLast(0), 0);
            Check.yes("FINALIZED", heap.isFinalized(0));
            Check.same("entries", heap.entriesOf(1), 1);
            for (int number = 3; number <= 5; number++) {
                Check.same("the QUEUE", heap.poll(6), number);
                Check.yes("cleared", heap.isCleared(6));
            }
            Check.same("the QUEUE is empty", heap.poll(6), -1);
            for (int slot = 0; slot < 6; slot++) {
                Check.yes("OLD", slot == 2 || heap.isOld(slot));
            }
            Check.same("no words of YOUNG ones", heap.youngWords(), 0);
        }
    }

    static void promise37StepSevenKeepsTheAge() {
        RuntimeHeap heap = new RuntimeHeap();
        heap.newRow(0, 0);
        heap.collectYoung();
        heap.newRow(1, 0);
        heap.collectAll(false);
        Check.same("age 1", heap.ageOf(0), 1);
        Check.same("age 0", heap.ageOf(1), 0);
        Check.yes("OLD of age 0", heap.isOld(1));
    }

    static void promise37StepSevenCountsOnlyWhatIsKept() {
        RuntimeHeap heap = new RuntimeHeap();
        Fill.words(heap, 320, 96);
        heap.pop(7);
        Check.same("a row of 40 words goes", heap.collectAll(false), 1);
        Check.same("one of two YOUNG ones of 32 words fits", heap.oldWords(), 320 - 40 + 32);
        heap.clear(1);
        Check.same("one more goes", heap.collectAll(false), 1);
        Check.same("one more fits", heap.oldWords(), 320 - 80 + 64);
        Check.same("young words", heap.youngWords(), 32);
    }
}
