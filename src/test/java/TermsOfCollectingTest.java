/** The document's Terms 3 REACHED, 4 ROOM and 5 COLLECTIONS: one test for each sentence, in its order. */
final class TermsOfCollectingTest {
    public static void main(String[] args) {
        Check.runAll(TermsOfCollectingTest.class);
    }

    private static void clearAll(RuntimeHeap heap) {
        for (int slot = 0; slot < heap.slots(); slot++) {
            heap.clear(slot);
        }
    }

    private static void reached(RuntimeHeap heap, boolean... due) {
        for (int number = 0; number < due.length; number++) {
            Check.same("reached " + number, heap.isReached(number) ? 1 : 0, due[number] ? 1 : 0);
        }
    }

    private static void present(RuntimeHeap heap, boolean... due) {
        for (int number = 0; number < due.length; number++) {
            Check.same("present " + number, heap.isPresent(number) ? 1 : 0, due[number] ? 1 : 0);
        }
    }

    /** A FINAL kind 0 and another kind 1, of 2 reference fields each. */
    private static RuntimeHeap withKinds() {
        RuntimeHeap heap = new RuntimeHeap();
        heap.defineKind(-1, 2, 0, true);
        heap.defineKind(-1, 2, 0, false);
        return heap;
    }

    // ---- 3 REACHED

    static void terms3WhatRootsHoldIsReachedItself() {
        RuntimeHeap heap = new RuntimeHeap();
        heap.newText(0, 0);
        heap.newText(0, 0);
        reached(heap, false, true);
        Check.same("removed", heap.collectAll(true), 1);
        reached(heap, false, true);
    }

    static void terms3WhatAPlainOrARowHoldsInItsFieldsOrPlacesIsReached() {
        RuntimeHeap heap = withKinds();
        heap.newObject(0, 1);
        heap.newRow(1, 3);
        for (int place = 0; place < 3; place++) {
            heap.newText(2, 0);
            heap.store(1, place, 2);
        }
        heap.newText(2, 0);
        heap.store(0, 0, 1);
        heap.store(0, 1, 2);
        heap.clear(1);
        heap.clear(2);
        reached(heap, true, true, true, true, true, true);
        Check.same("removed", heap.collectAll(true), 0);
        heap.clear(0);
        Check.same("without the PLAIN", heap.collectAll(true), 6);
    }

    static void terms3TheReferentOfASoftIsReached() {
        RuntimeHeap heap = new RuntimeHeap();
        heap.newText(0, 0);
        heap.newSoft(0, 0, true);
        heap.newSoft(0, 0, true);
        reached(heap, true, true, true);
        Check.same("young", heap.collectYoung(), 0);
        Check.same("full", heap.collectAll(false), 0);
    }

    static void terms3ButNotIfTheCollectionIsPressed() {
        RuntimeHeap heap = new RuntimeHeap();
        heap.newText(0, 0);
        heap.newSoft(0, 0, true);
        heap.newSoft(1, 0, true);
        Check.same("would be", heap.wouldRemove(true), 1);
        Check.same("PRESSED", heap.collectAll(true), 1);
        present(heap, false, true, true);
        Check.yes("cleared", heap.isCleared(0));
        Check.no("that holds by itself", heap.isCleared(1));
    }

    /** The TABLE 0 in slot 0 with the entries 3 to 4, 2 to 3 and 1 to 2, of which slot 1 holds the key 1. */
    private static void tableOfThree(RuntimeHeap heap) {
        heap.newTable(0, 3);
        for (int slot = 1; slot <= 4; slot++) {
            heap.newText(slot, 0);
        }
        for (int key = 3; key >= 1; key--) {
            heap.put(0, key, key + 1);
            heap.clear(key + 1);
        }
    }

    static void terms3AValueIsReachedIfTheTableAndTheKeyAre() {
        reached(Edge.behind(TermsOfCollectingTest::tableOfThree), true, true, true, true, true);
        reached(Edge.behind(Edge.both(TermsOfCollectingTest::tableOfThree, heap -> heap.clear(1))),
            true, false, false, false, false);
        reached(Edge.behind(Edge.both(TermsOfCollectingTest::tableOfThree, heap -> heap.clear(0))),
            false, true, false, false, false);
        RuntimeHeap heap = Edge.behind(TermsOfCollectingTest::tableOfThree);
        Check.same("removed", heap.collectAll(true), 0);
        heap.clear(1);
        Check.same("without the first key", heap.collectAll(true), 4);
    }

    static void terms3AndNothingElse() {
        RuntimeHeap heap = new RuntimeHeap();
        heap.newText(0, 0);
        heap.newWeak(1, 0, true);
        heap.newText(0, 0);
        heap.newPhantom(2, 0);
        heap.newTable(3, 2);
        heap.newText(0, 0);
        heap.put(3, 0, 0);
        heap.newObject(4, heap.defineKind(-1, 0, 2, false));
        heap.setNumber(4, 1, 2);
        heap.newText(5, 1);
        heap.setByte(5, 0, 2);
        heap.clear(0);
        reached(heap, false, true, false, true, true, false, true, true);
        Check.same("removed", heap.collectAll(false), 3);
        Check.same("entries", heap.entriesOf(3), 0);
    }

    static void terms3FromRootsIsFromAllThatTheyHold() {
        RuntimeHeap heap = new RuntimeHeap();
        for (int i = 0; i < 3; i++) {
            heap.newRow(i, 1);
            heap.newText(7, 0);
            heap.store(i, 0, 7);
        }
        heap.clear(7);
        heap.toGlobal(7, 1);
        heap.clear(1);
        heap.push(1);
        heap.newTable(0, 1);
        reached(heap, true, true, true, true, true, true, true);
        Check.same("removed", heap.collectAll(true), 0);
    }

    // ---- 4 ROOM

    static void terms4EachObjectIsYoungOrOld() {
        RuntimeHeap heap = new RuntimeHeap();
        heap.newRow(0, 0);
        heap.newRow(1, 40);
        Check.no("YOUNG", heap.isOld(0));
        Check.yes("OLD", heap.isOld(1));
        Check.same("YOUNG ones", heap.youngObjects(), 1);
        Check.same("their words", heap.youngWords(), 2);
        Check.same("words of OLD ones", heap.oldWords(), 42);
        heap.collectAll(false);
        Check.yes("both", heap.isOld(0) && heap.isOld(1));
        Check.same("YOUNG ones", heap.youngObjects(), 0);
        Check.same("their words", heap.youngWords(), 0);
        Check.same("words of OLD ones", heap.oldWords(), 44);
    }

    static void terms4YoungOnesTakeNinetySixWordsAtMostOldOnesThreeHundredAndTwenty() {
        RuntimeHeap heap = new RuntimeHeap();
        Fill.words(heap, 320, 96);
        Check.same("no room", heap.newRow(0, 0), -1);
        Check.same("no room", heap.newRow(0, 40), -1);
        Check.same("YOUNG", heap.youngWords(), 96);
        Check.same("OLD", heap.oldWords(), 320);
        Edge.answers("97 YOUNG words", -1, scene -> Fill.words(scene, 320, 95), scene -> scene.newRow(0, 0));
        Edge.answers("321 OLD words", -1, scene -> Fill.words(scene, 279, 96), scene -> scene.newRow(0, 40));
        RuntimeHeap other = new RuntimeHeap();
        Fill.words(other, 318, 94);
        Check.same("room for a YOUNG one", other.newRow(0, 0), other.made() - 1);
        Check.same("no collection", other.fullCollections() + other.youngCollections(), 0);
    }

    static void terms4UpToThirtyTwoWordsAreYoungMoreAreOld() {
        for (int length = 0; length <= 40; length++) {
            RuntimeHeap heap = new RuntimeHeap();
            heap.newRow(0, length);
            Check.same("OLD by " + (length + 2), heap.isOld(0) ? 1 : 0, length + 2 > 32 ? 1 : 0);
        }
        Edge.answers("the largest TEXT", false, heap -> heap.newText(0, 120), heap -> heap.isOld(0));
        Edge.answers("a TABLE of 32 words", false, heap -> heap.newTable(0, 15), heap -> heap.isOld(0));
        Edge.answers("a TABLE of 34 words", true, heap -> heap.newTable(0, 16), heap -> heap.isOld(0));
    }

    static void terms4ItsAgeIsZero() {
        RuntimeHeap heap = new RuntimeHeap();
        for (int length : new int[] {0, 40}) {
            heap.newRow(0, length);
            Check.same("age", heap.ageOf(0), 0);
            heap.newRow(1, length);
            heap.clear(0);
            heap.collectYoung();
            heap.newRow(2, length);
            Check.same("age of one where an older one was", heap.ageOf(2), 0);
        }
    }

    static void terms4ThereIsRoomUpToTheMostWords() {
        int[] words = {2, 32, 33, 42};
        for (int w : words) {
            int old = w > 32 ? 320 - w : 320;
            int young = w > 32 ? 96 : 96 - w;
            RuntimeHeap heap = new RuntimeHeap();
            Fill.words(heap, old, young);
            heap.newRow(0, w - 2);
            Check.same("room for " + w, heap.youngWords() + heap.oldWords(), 416);
            Check.same("no collection", heap.fullCollections() + heap.youngCollections(), 0);
            RuntimeHeap other = new RuntimeHeap();
            Fill.words(other, w > 32 ? old + 1 : old, w > 32 ? young : young + 1);
            Check.same("by one word there is none for " + w, other.newRow(0, w - 2), -1);
        }
        RuntimeHeap heap = new RuntimeHeap();
        Fill.words(heap, 42, 96);
        heap.newRow(0, 0);
        Check.same("room among OLD ones is none for a YOUNG one", heap.youngCollections(), 1);
        RuntimeHeap other = new RuntimeHeap();
        Fill.words(other, 300, 0);
        other.newRow(0, 40);
        Check.same("nor the other way round", other.youngCollections(), 1);
    }

    private static void counts(RuntimeHeap heap, int young, int full) {
        Check.same("young collections", heap.youngCollections(), young);
        Check.same("full collections", heap.fullCollections(), full);
    }

    /** Three ROWs of 32 words; the first so many are held by nothing. */
    private static void threeRows(RuntimeHeap heap, int unreached) {
        for (int i = 0; i < 3; i++) {
            heap.newRow(i, 30);
        }
        for (int i = 0; i < unreached; i++) {
            heap.clear(i);
        }
    }

    /** 317 OLD words, 33 of which are reached by a SOFT in slot 0 alone, and that one. */
    private static void softOfALargeOne(RuntimeHeap heap) {
        Fill.words(heap, 284, 0);
        heap.newRow(0, 31);
        heap.newSoft(0, 0, true);
    }

    static void terms4WhoWantsRoomHasCollectionsDoneOneBehindTheOtherTillThereIsSome() {
        Edge.Act[] scenes = {heap -> threeRows(heap, 2), heap -> threeRows(heap, 2), heap -> threeRows(heap, 2),
            heap -> threeRows(heap, 0), TermsOfCollectingTest::softOfALargeOne, heap -> Fill.words(heap, 320, 96)};
        int[] places = {0, 30, 30, 30, 31, 0};
        int[] young = {0, 0, 1, 1, 1, 0};
        int[] full = {0, 1, 0, 1, 2, 3};
        for (int i = 0; i < scenes.length; i++) {
            RuntimeHeap heap = Edge.behind(scenes[i]);
            if (i == 0) {
                heap.collectAll(false);
                full[i] = 1;
            }
            if (i < 2) {
                heap.beginMarking();
            }
            int made = heap.made();
            Check.same("made " + i, heap.newRow(7, places[i]), i == 5 ? -1 : made);
            counts(heap, young[i], full[i]);
            Check.same("marking is on " + i, heap.isMarking() ? 1 : 0, i == 0 ? 1 : 0);
        }
    }

    static void terms4FirstMarkingIsBroughtToItsEnd() {
        RuntimeHeap heap = Edge.behind(scene -> threeRows(scene, 2));
        heap.beginMarking();
        Check.same("room", heap.newRow(3, 30), 3);
        Check.no("marking is on", heap.isMarking());
        counts(heap, 0, 1);
        present(heap, false, false, true, true);
    }

    static void terms4MarkingThatIsOffIsNotBroughtToAnEnd() {
        RuntimeHeap heap = Edge.behind(scene -> threeRows(scene, 1));
        heap.newRow(3, 30);
        counts(heap, 1, 0);
        RuntimeHeap other = new RuntimeHeap();
        other.beginMarking();
        other.newRow(0, 30);
        Check.yes("nor is it, if there is room", other.isMarking());
    }

    static void terms4ThenAYoungCollection() {
        RuntimeHeap heap = Edge.behind(scene -> threeRows(scene, 1));
        Check.same("room", heap.newRow(3, 30), 3);
        counts(heap, 1, 0);
        present(heap, false, true, true, true);
        Check.same("age", heap.ageOf(1), 1);
    }

    static void terms4ThenAFullCollection() {
        RuntimeHeap heap = new RuntimeHeap();
        for (int i = 0; i < 3; i++) {
            heap.newRow(i, i == 2 ? 25 : 30);
        }
        heap.newText(3, 0);
        heap.newSoft(3, 3, true);
        Check.same("room", heap.newRow(4, 30), 5);
        counts(heap, 1, 1);
        Check.yes("they have become OLD", heap.isOld(0) && heap.isOld(1) && heap.isOld(2) && heap.isOld(3));
        Check.no("not it", heap.isOld(4));
        Check.no("it is not PRESSED", heap.isCleared(3));
    }

    static void terms4ThenAPressedFullCollection() {
        RuntimeHeap heap = Edge.behind(TermsOfCollectingTest::softOfALargeOne);
        int made = heap.made();
        Check.same("room", heap.newRow(1, 31), made);
        counts(heap, 1, 2);
        Check.yes("the SOFT", heap.isCleared(0));
    }

    static void terms4IfThereIsNoneBehindItEitherNothingIsMade() {
        RuntimeHeap heap = new RuntimeHeap();
        Fill.words(heap, 320, 96);
        int made = heap.made();
        Check.same("newText", heap.newText(0, 0), -1);
        Check.same("newRow", heap.newRow(0, 40), -1);
        Check.same("made", heap.made(), made);
        Check.same("objects", heap.objects(), made);
        Check.same("slot 0", heap.numberOf(0), -1);
    }

    static void terms4WhatWasDoneUpToThenStaysDone() {
        RuntimeHeap heap = new RuntimeHeap();
        Fill.words(heap, 318, 86);
        heap.newText(0, 0);
        heap.newSoft(0, 0, true);
        heap.newWeak(1, 0, true);
        int text = heap.made() - 3;
        heap.beginMarking();
        Check.same("no room", heap.newRow(2, 40), -1);
        Check.no("marking is on", heap.isMarking());
        counts(heap, 0, 4);
        Check.no("what the SOFT referred to", heap.isPresent(text));
        Check.yes("cleared", heap.isCleared(0));
        Check.same("queued", heap.queued(), 1);
    }

    // ---- 5 COLLECTIONS: a full one

    static void terms5AFullCollectionDoesSevenSteps() {
        RuntimeHeap heap = withKinds();
        heap.newObject(0, 0);
        heap.newText(1, 0);
        heap.newWeak(2, 1, true);
        heap.newPhantom(3, 1);
        heap.newTable(4, 2);
        heap.put(4, 1, 1);
        heap.put(4, 4, 4);
        heap.clear(0);
        heap.clear(1);
        Check.same("removed", heap.collectAll(false), 1);
        Check.same("the LAST ROW", heap.takeLast(0), 0);
        Check.yes("FINALIZED", heap.isFinalized(0));
        Check.same("the QUEUE", heap.poll(1), 2);
        Check.same("the QUEUE", heap.poll(1), 3);
        Check.same("entries", heap.entriesOf(4), 1);
        present(heap, true, false, true, true, true);
        for (int slot = 0; slot < 5; slot++) {
            Check.yes("OLD", heap.isOld(slot));
        }
        counts(heap, 0, 1);
    }

    static void terms5StepOneStrongIsWhatIsReachedFromRoots() {
        // A WEAK tells who is STRONG: a FINAL one and what it holds are KEPT as well.
        RuntimeHeap heap = withKinds();
        for (int slot = 0; slot < 2; slot++) {
            heap.newObject(slot, 0);
            heap.newText(2, 0);
            heap.store(slot, 0, 2);
            heap.newWeak(3 + 2 * slot, slot, true);
            heap.newWeak(4 + 2 * slot, 2, true);
        }
        heap.clear(1);
        heap.clear(2);
        heap.collectAll(false);
        Check.no("what a root holds", heap.isCleared(3));
        Check.no("what that holds", heap.isCleared(4));
        Check.yes("what no root holds", heap.isCleared(5));
        Check.yes("what that holds", heap.isCleared(6));
        Check.same("lasts", heap.lasts(), 1);
    }

    static void terms5StepTwoFinalOnesThatAreNotStrongAreFinalizedOnceAndGoToTheEndOfTheLastRow() {
        RuntimeHeap heap = withKinds();
        for (int slot = 0; slot < 3; slot++) {
            heap.newObject(slot, 0);
        }
        heap.newObject(3, 1);
        heap.clear(3);
        heap.clear(1);
        heap.collectAll(false);
        Check.same("one", heap.lasts(), 1);
        Check.no("STRONG ones are not", heap.isFinalized(0));
        heap.clear(0);
        heap.collectAll(false);
        Check.same("to the end: first", heap.takeLast(4), 1);
        Check.same("then", heap.takeLast(5), 0);
        Check.yes("FINALIZED", heap.isFinalized(4) && heap.isFinalized(5));
        heap.clear(4);
        Check.same("not once more", heap.collectAll(false), 1);
        Check.same("lasts", heap.lasts(), 0);
    }

    static void terms5StepTwoSeveralDoSoByRisingNumbers() {
        RuntimeHeap heap = withKinds();
        heap.newRow(0, 0);
        for (int number = 1; number <= 4; number++) {
            heap.newObject(8 - number, 0);
        }
        heap.clear(0);
        heap.collectAll(false);
        heap.newObject(0, 0);
        clearAll(heap);
        heap.collectAll(true);
        for (int number = 1; number <= 5; number++) {
            Check.same("takeLast", heap.takeLast(0), number);
        }
    }

    static void terms5StepThreeKeptIsWhatIsReachedFromStrongOnesAndThoseOfStepTwo() {
        RuntimeHeap heap = withKinds();
        heap.newObject(0, 0);
        heap.newRow(1, 1);
        heap.newText(2, 0);
        heap.store(1, 0, 2);
        heap.store(0, 1, 1);
        heap.newRow(3, 1);
        heap.newText(4, 0);
        heap.store(3, 0, 4);
        clearAll(heap);
        heap.toGlobal(0, 3);
        heap.newRow(5, 0);
        heap.newRow(6, 1);
        heap.newText(7, 0);
        heap.store(6, 0, 7);
        heap.clear(5);
        heap.clear(7);
        Check.same("removed", heap.collectAll(false), 3);
        present(heap, true, true, true, false, false, false, true, true);
    }

    static void terms5StepFourAWeakOrSoftOfOneThatIsNotStrongIsCleared() {
        RuntimeHeap heap = withKinds();
        heap.newObject(0, 0);
        heap.newText(1, 0);
        heap.newSoft(2, 1, true);
        heap.store(0, 0, 2);
        heap.newWeak(3, 0, true);
        heap.newWeak(4, 1, true);
        heap.newText(5, 0);
        heap.newWeak(6, 5, true);
        for (int slot = 0; slot < 3; slot++) {
            heap.clear(slot);
        }
        Check.same("none is removed", heap.collectAll(false), 0);
        Check.yes("of a KEPT one", heap.isCleared(3));
        Check.yes("of one that a KEPT SOFT reaches", heap.isCleared(4));
        Check.no("of a STRONG one", heap.isCleared(6));
        heap.takeLast(0);
        heap.load(2, 0, 0);
        Check.yes("the KEPT SOFT", heap.isCleared(2));
    }

    static void terms5StepFourAPhantomOfOneThatIsNotKeptIsCleared() {
        RuntimeHeap heap = withKinds();
        heap.newObject(0, 0);
        heap.newPhantom(1, 0);
        heap.newText(2, 0);
        heap.newPhantom(3, 2);
        clearAllBut(heap, 1, 3);
        heap.collectAll(false);
        Check.no("of a KEPT one", heap.isCleared(1));
        Check.yes("of one that is removed", heap.isCleared(3));
        heap.takeLast(0);
        heap.clear(0);
        heap.collectAll(false);
        Check.yes("when it is removed", heap.isCleared(1));
    }

    private static void clearAllBut(RuntimeHeap heap, int one, int other) {
        for (int slot = 0; slot < heap.slots(); slot++) {
            if (slot != one && slot != other) {
                heap.clear(slot);
            }
        }
    }

    static void terms5StepFourThoseClearedInItAndQueuedGoToTheEndOfTheQueueByRisingNumbers() {
        RuntimeHeap heap = new RuntimeHeap();
        heap.newRow(0, 0);
        heap.newPhantom(7, 0);
        heap.clear(0);
        heap.collectAll(false);
        heap.newRow(0, 0);
        heap.newPhantom(6, 0);
        heap.newWeak(5, 0, false);
        heap.newSoft(4, 0, true);
        heap.newWeak(3, 0, true);
        heap.newWeak(2, 0, true);
        heap.forget(2);
        heap.newWeak(1, 0, true);
        heap.clear(1);
        heap.clear(0);
        heap.collectAll(true);
        for (int number : new int[] {1, 3, 5, 6, -1}) {
            Check.same("poll", heap.poll(0), number);
        }
        heap.collectAll(true);
        Check.same("not once more", heap.queued(), 0);
    }

    static void terms5StepFiveEntriesOfKeysThatAreNotKeptVanish() {
        RuntimeHeap heap = withKinds();
        heap.newTable(0, 5);
        heap.newText(1, 0);
        heap.newText(2, 0);
        heap.newObject(3, 0);
        heap.newText(4, 0);
        heap.newText(5, 0);
        heap.put(0, 1, 4);
        heap.put(0, 2, 4);
        heap.put(0, 3, 4);
        heap.put(0, 4, 7);
        heap.put(0, 5, 4);
        clearAllBut(heap, 0, 2);
        Check.same("the first and the last key", heap.collectAll(false), 2);
        Check.same("a STRONG key, a KEPT key, and the value of both", heap.entriesOf(0), 3);
        Check.same("its value", heap.get(5, 0, 2), 4);
        heap.takeLast(3);
        Check.same("its value", heap.get(5, 0, 3), 4);
        Check.yes("the value is a key too", heap.remove(0, 5));
    }

    static void terms5StepSixAllThatAreNotKeptAreRemoved() {
        RuntimeHeap heap = withKinds();
        heap.newRow(0, 1);
        heap.newRow(1, 1);
        heap.newRow(2, 40);
        heap.store(0, 0, 1);
        heap.store(1, 0, 0);
        heap.newText(3, 120);
        heap.newObject(4, 0);
        clearAllBut(heap, 3, 3);
        Check.same("removed, also a circle, YOUNG or OLD", heap.collectAll(false), 3);
        present(heap, false, false, false, true, true);
        Check.same("objects", heap.objects(), 2);
        Check.same("words", heap.youngWords() + heap.oldWords(), 36);
    }

    static void terms5StepSevenYoungOnesBecomeOldByRisingNumbersIfTheyFit() {
        RuntimeHeap heap = new RuntimeHeap();
        Fill.words(heap, 300, 0);
        heap.newRow(1, 8);
        heap.newRow(0, 8);
        heap.newRow(2, 8);
        heap.collectAll(false);
        Check.yes("the first one", heap.isOld(1));
        Check.yes("the second one, up to 320", heap.isOld(0));
        Check.no("the third one", heap.isOld(2));
        Check.same("OLD words", heap.oldWords(), 320);
        Check.same("YOUNG words", heap.youngWords(), 10);
    }

    static void terms5StepSevenOtherwiseItStaysYoung() {
        RuntimeHeap heap = new RuntimeHeap();
        Fill.words(heap, 311, 0);
        heap.newRow(0, 8);
        heap.newRow(1, 7);
        heap.newRow(2, 0);
        heap.collectAll(false);
        Check.no("10 words do not fit", heap.isOld(0));
        Check.yes("9 words do", heap.isOld(1));
        Check.no("2 more do not", heap.isOld(2));
        Check.same("its age", heap.ageOf(0), 0);
    }

    static void terms5APressedOneDoesTheSameButASoftDoesNotReachItsReferent() {
        RuntimeHeap heap = withKinds();
        heap.newObject(0, 0);
        heap.newText(1, 0);
        heap.newSoft(2, 1, true);
        heap.store(0, 0, 2);
        heap.newText(3, 0);
        heap.newSoft(4, 3, true);
        heap.newTable(5, 2);
        heap.put(5, 3, 3);
        heap.put(5, 5, 5);
        heap.newWeak(6, 5, true);
        clearAllBut(heap, 4, 5);
        Check.same("removed: both referents and the WEAK", heap.collectAll(true), 3);
        present(heap, true, false, true, false, true, true, false);
        Check.same("step 2", heap.takeLast(0), 0);
        Check.same("step 4", heap.poll(1), 2);
        Check.same("step 4", heap.poll(1), 4);
        Check.same("step 5", heap.entriesOf(5), 1);
        Check.yes("step 7", heap.isOld(0) && heap.isOld(5));
        counts(heap, 0, 1);
    }

    // ---- 5 COLLECTIONS: a young one

    static void terms5AboveThreeHundredAndTwentyWordsAFullOneIsDoneInstead() {
        for (int words = 320; words <= 321; words++) {
            RuntimeHeap heap = withKinds();
            Fill.words(heap, 250, words - 250 - 5);
            heap.newText(0, 0);
            heap.newSoft(0, 0, true);
            heap.clear(1);
            int text = heap.made() - 2;
            heap.collectYoung();
            counts(heap, words == 320 ? 1 : 0, words == 320 ? 0 : 1);
            Check.same("age", heap.ageOf(0), words == 320 ? 1 : 0);
            Check.same("all but the last one become OLD by a full one", heap.youngWords(), words == 320 ? 70 : 3);
            Check.yes("not PRESSED", heap.isPresent(text));
        }
    }

    static void terms5AYoungOneDoesTheFirstSixStepsButOldOnesAreStrong() {
        RuntimeHeap heap = withKinds();
        heap.newRow(0, 40);
        heap.newObject(1, 0);
        heap.newText(2, 0);
        heap.newText(3, 0);
        heap.newTable(4, 2);
        heap.newWeak(5, 3, true);
        heap.newSoft(6, 2, true);
        heap.store(0, 0, 6);
        heap.put(4, 3, 3);
        heap.put(4, 4, 4);
        clearAllBut(heap, 4, 5);
        Check.same("removed: only the TEXT 3", heap.collectYoung(), 1);
        present(heap, true, true, true, false, true, true, true);
        Check.same("step 2", heap.takeLast(1), 1);
        Check.same("step 4", heap.poll(2), 5);
        Check.same("step 5", heap.entriesOf(4), 1);
        Check.same("the SOFT is not PRESSED", heap.queued(), 0);
        counts(heap, 1, 0);
        RuntimeHeap other = withKinds();
        other.setTenure(1);
        other.newObject(0, 1);
        other.collectYoung();
        other.newText(1, 0);
        other.store(0, 1, 1);
        clearAll(other);
        Check.same("an OLD PLAIN is STRONG as well", other.collectYoung(), 0);
    }

    static void terms5ThenEachYoungOneIsOneOlderAndOldIfItsAgeIsTenure() {
        for (int tenure = 1; tenure <= 4; tenure++) {
            RuntimeHeap heap = new RuntimeHeap();
            heap.setTenure(tenure);
            heap.newRow(0, 0);
            heap.newRow(1, 40);
            for (int age = 1; age <= 5; age++) {
                heap.collectYoung();
                Check.same("age", heap.ageOf(0), Math.min(age, tenure));
                Check.same("OLD", heap.isOld(0) ? 1 : 0, age >= tenure ? 1 : 0);
                Check.same("age of one that was OLD", heap.ageOf(1), 0);
            }
        }
        RuntimeHeap heap = new RuntimeHeap();
        heap.setTenure(4);
        heap.newRow(0, 0);
        heap.collectYoung();
        heap.collectYoung();
        heap.setTenure(1);
        heap.collectYoung();
        Check.same("more than TENURE", heap.ageOf(0), 3);
        Check.yes("OLD", heap.isOld(0));
    }

    static void terms5TenureIsOneToFour() {
        Edge.range(IllegalArgumentException.class, "TENURE", 1, 4, Edge.NEW, RuntimeHeap::setTenure);
    }

    static void terms5TenureIsTwoAtFirst() {
        Edge.answers("TENURE", 2, Edge.NEW, RuntimeHeap::tenure);
        RuntimeHeap heap = new RuntimeHeap();
        heap.newRow(0, 0);
        heap.collectYoung();
        Check.no("OLD of age 1", heap.isOld(0));
        heap.collectYoung();
        Check.yes("OLD of age 2", heap.isOld(0));
    }
}
