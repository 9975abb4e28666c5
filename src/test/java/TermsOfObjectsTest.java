/** The document's Terms 1 OBJECTS and 2 SLOTS: one test for each sentence, in its order. */
final class TermsOfObjectsTest {
    public static void main(String[] args) {
        Check.runAll(TermsOfObjectsTest.class);
    }

    /** One object of each form, by its number, in the slot with that number; the slot 7 holds nothing. */
    private static void eachForm(RuntimeHeap heap) {
        heap.defineKind(-1, 2, 3, false);
        heap.newObject(0, 0);
        heap.newRow(1, 4);
        heap.newText(2, 5);
        heap.newWeak(3, 0, true);
        heap.newSoft(4, 0, true);
        heap.newPhantom(5, 0);
        heap.newTable(6, 3);
    }

    private static void clearAll(RuntimeHeap heap) {
        for (int slot = 0; slot < heap.slots(); slot++) {
            heap.clear(slot);
        }
    }

    static void termsDivisionIsCutTowardsZero() {
        int[] bytes = {0, 1, 2, 3, 4, 5, 6, 117, 118, 119, 120};
        int[] quotient = {0, 1, 1, 1, 1, 2, 2, 30, 30, 30, 30};
        for (int i = 0; i < bytes.length; i++) {
            RuntimeHeap heap = new RuntimeHeap();
            heap.newText(0, bytes[i]);
            Check.same("(" + bytes[i] + " + 3) / 4", heap.wordsOf(0) - 2, quotient[i]);
        }
    }

    // ---- 1 OBJECTS

    static void terms1NumbersAreZeroOneTwoInTheOrderInWhichTheyAreMade() {
        RuntimeHeap heap = new RuntimeHeap();
        heap.defineKind(-1, 2, 3, false);
        Check.same("PLAIN", heap.newObject(0, 0), 0);
        Check.same("ROW", heap.newRow(1, 40), 1);
        Check.same("TEXT", heap.newText(2, 5), 2);
        Check.same("WEAK", heap.newWeak(3, 0, true), 3);
        Check.same("SOFT", heap.newSoft(4, 0, true), 4);
        Check.same("PHANTOM", heap.newPhantom(5, 0), 5);
        Check.same("TABLE", heap.newTable(6, 3), 6);
        clearAll(heap);
        heap.collectAll(true);
        Check.same("when all are gone", heap.newRow(7, 0), 7);
        Check.same("a copy", heap.deepCopy(6, 7), 8);
        heap.writeImage(7);
        Check.same("one by an IMAGE", heap.readImage(5), 9);
    }

    static void terms1EachKeepsItsNumber() {
        RuntimeHeap heap = new RuntimeHeap();
        for (int i = 0; i < 3; i++) {
            heap.newRow(0, 0);
            heap.newRow(1, 1);
        }
        heap.setTenure(1);
        heap.collectYoung();
        Check.same("when others are removed and it becomes OLD", heap.numberOf(0), 4);
        Check.same("the other one", heap.numberOf(1), 5);
        heap.newRow(2, 2);
        heap.clear(0);
        heap.collectAll(false);
        Check.same("when one ahead of it is removed", heap.numberOf(1), 5);
        Check.same("one that was made behind", heap.numberOf(2), 6);
        heap.store(1, 0, 2);
        heap.beginMarking();
        heap.clear(2);
        heap.step(50);
        Check.same("behind marking", heap.load(3, 1, 0), 6);
    }

    static void terms1PresentFromWhenItIsMadeUntilItIsRemoved() {
        for (int length : new int[] {0, 40}) {
            RuntimeHeap heap = new RuntimeHeap();
            Check.no("ahead", heap.isPresent(0));
            heap.newRow(0, length);
            Check.yes("made", heap.isPresent(0));
            Check.no("the next one", heap.isPresent(1));
            heap.collectAll(false);
            Check.yes("not removed", heap.isPresent(0));
            heap.clear(0);
            Check.yes("not reached, not removed", heap.isPresent(0));
            heap.newRow(0, length);
            heap.collectAll(false);
            Check.no("removed", heap.isPresent(0));
            Check.yes("the other one", heap.isPresent(1));
            Check.same("objects", heap.objects(), 1);
        }
    }

    static void terms1MinusOneStandsForNone() {
        RuntimeHeap heap = Edge.behind(TermsOfObjectsTest::eachForm);
        Check.same("numberOf", heap.numberOf(7), -1);
        Check.same("globalNumber", heap.globalNumber(0), -1);
        Check.same("assign", heap.assign(7, 7), -1);
        Check.same("clear", heap.clear(7), -1);
        Check.same("toGlobal", heap.toGlobal(1, 0), -1);
        Check.same("fromGlobal", heap.fromGlobal(7, 0), -1);
        Check.same("load", heap.load(7, 1, 0), -1);
        Check.same("store", heap.store(1, 0, 0), -1);
        Check.same("get", heap.get(7, 6, 0), -1);
        Check.same("poll", heap.poll(7), -1);
        Check.same("takeLast", heap.takeLast(7), -1);
        heap.forget(3);
        Check.same("read", heap.read(7, 3), -1);
        heap.push(1);
        Check.same("pop", heap.pop(0), -1);
        Check.same("heaviest", new RuntimeHeap().heaviest(), -1);
    }

    static void terms1APlainHasReferenceFieldsAndNumberFields() {
        RuntimeHeap heap = Edge.behind(TermsOfObjectsTest::eachForm);
        Check.same("form", heap.formOf(0), 0);
        for (int field = 0; field < 2; field++) {
            heap.store(0, field, field + 1);
        }
        for (int field = 0; field < 3; field++) {
            heap.setNumber(0, field, field + 7);
        }
        for (int field = 0; field < 2; field++) {
            Check.same("reference field " + field, heap.load(7, 0, field), field + 1);
        }
        for (int field = 0; field < 3; field++) {
            Check.same("number field " + field, heap.getNumber(0, field), field + 7);
        }
    }

    static void terms1APlainTakesTwoWordsAndOneForEachField() {
        for (int references = 0; references <= 4; references++) {
            for (int numbers = 0; numbers <= 4; numbers++) {
                RuntimeHeap heap = new RuntimeHeap();
                heap.defineKind(-1, references, numbers, false);
                heap.newObject(0, 0);
                Check.same("words", heap.wordsOf(0), 2 + references + numbers);
                heap.newObject(1, heap.defineKind(0, references, numbers, false));
                Check.same("words with those of the parent", heap.wordsOf(1), 2 + 2 * references + 2 * numbers);
            }
        }
    }

    static void terms1ARowHasZeroToFortyPlaces() {
        Edge.range(IllegalArgumentException.class, "places", 0, 40, Edge.NEW, (heap, length) -> heap.newRow(0, length));
        RuntimeHeap heap = Edge.behind(scene -> scene.newRow(0, 40));
        Check.same("form", heap.formOf(0), 1);
        for (int place = 0; place < 40; place++) {
            heap.newRow(1, 0);
            heap.store(0, place, 1);
        }
        for (int place = 0; place < 40; place++) {
            Check.same("place " + place, heap.load(1, 0, place), place + 1);
        }
    }

    static void terms1ARowTakesTwoWordsAndOneForEachPlace() {
        for (int length = 0; length <= 40; length++) {
            RuntimeHeap heap = new RuntimeHeap();
            heap.newRow(0, length);
            Check.same("words", heap.wordsOf(0), 2 + length);
        }
    }

    static void terms1ATextHasZeroToOneHundredAndTwentyBytes() {
        Edge.range(IllegalArgumentException.class, "bytes", 0, 120, Edge.NEW,
            (heap, length) -> heap.newText(0, length));
        Edge.range(IllegalArgumentException.class, "a byte", 0, 255, scene -> scene.newText(0, 1),
            (heap, value) -> heap.setByte(0, 0, value));
        RuntimeHeap heap = Edge.behind(scene -> scene.newText(0, 120));
        Check.same("form", heap.formOf(0), 2);
        for (int value = 0; value <= 255; value++) {
            heap.setByte(0, value % 120, value);
            Check.same("byte", heap.getByte(0, value % 120), value);
        }
    }

    static void terms1ATextTakesTwoWordsAndOneForEachFourBytes() {
        for (int length = 0; length <= 120; length++) {
            RuntimeHeap heap = new RuntimeHeap();
            heap.newText(0, length);
            Check.same("words", heap.wordsOf(0), 2 + (length + 3) / 4);
        }
    }

    static void terms1AReferenceRefersToItsReferentOrIsClearedAndStaysSo() {
        RuntimeHeap heap = Edge.behind(TermsOfObjectsTest::eachForm);
        for (int form = 3; form <= 5; form++) {
            Check.same("form", heap.formOf(form), form);
            Check.yes("its referent", heap.refersTo(form, 0));
            Check.no("cleared", heap.isCleared(form));
            heap.forget(form);
            for (int i = 0; i < 3; i++) {
                Check.yes("cleared", heap.isCleared(form));
                Check.no("its referent", heap.refersTo(form, 0));
                heap.collectAll(i == 1);
            }
        }
        RuntimeHeap other = Edge.behind(TermsOfObjectsTest::eachForm);
        other.clear(0);
        other.collectAll(true);
        for (int form = 3; form <= 5; form++) {
            Check.yes("cleared by a collection", other.isCleared(form));
        }
    }

    static void terms1AReferenceTakesThreeWords() {
        RuntimeHeap heap = Edge.behind(TermsOfObjectsTest::eachForm);
        for (int form = 3; form <= 5; form++) {
            Check.same("words", heap.wordsOf(form), 3);
            heap.forget(form);
            Check.same("words, cleared", heap.wordsOf(form), 3);
        }
    }

    static void terms1AReferenceIsQueuedOrNot() {
        RuntimeHeap heap = new RuntimeHeap();
        heap.newRow(0, 0);
        heap.newWeak(1, 0, false);
        heap.newWeak(2, 0, true);
        heap.newSoft(3, 0, false);
        heap.newSoft(4, 0, true);
        heap.newPhantom(5, 0);
        heap.clear(0);
        heap.collectAll(true);
        for (int number : new int[] {2, 4, 5, -1}) {
            Check.same("poll", heap.poll(0), number);
        }
    }

    static void terms1ATableHasOneToSixteenEntriesAtMost() {
        Edge.range(IllegalArgumentException.class, "capacity", 1, 16, Edge.NEW, (heap, most) -> heap.newTable(0, most));
        for (int capacity = 1; capacity <= 16; capacity++) {
            RuntimeHeap heap = new RuntimeHeap();
            heap.newTable(0, capacity);
            Check.same("form", heap.formOf(0), 6);
            for (int entry = 0; entry < capacity; entry++) {
                heap.newRow(1, 0);
                Check.yes("entry " + entry + " of " + capacity, heap.put(0, 1, 1));
            }
            heap.newRow(1, 0);
            Check.no("one more than " + capacity, heap.put(0, 1, 1));
            Check.same("entries", heap.entriesOf(0), capacity);
        }
    }

    static void terms1AnEntryHasAKeyAndAValueOrNothing() {
        RuntimeHeap heap = Edge.behind(TermsOfObjectsTest::eachForm);
        heap.put(6, 0, 1);
        heap.put(6, 1, 7);
        Check.same("the value of the one", heap.get(5, 6, 0), 1);
        Check.same("the other has none", heap.get(5, 6, 1), -1);
        Check.same("no entry", heap.get(5, 6, 2), -1);
        Check.same("entries", heap.entriesOf(6), 2);
        Check.badArgument(heap, "nothing is no key", () -> heap.put(6, 7, 1));
    }

    static void terms1NoTwoEntriesHaveTheSameKey() {
        RuntimeHeap heap = Edge.behind(TermsOfObjectsTest::eachForm);
        heap.put(6, 0, 1);
        heap.put(6, 2, 1);
        heap.put(6, 0, 2);
        Check.same("entries", heap.entriesOf(6), 2);
        Check.same("the later value", heap.get(5, 6, 0), 2);
        Check.yes("remove", heap.remove(6, 0));
        Check.no("there was no other one", heap.remove(6, 0));
    }

    static void terms1ATableTakesTwoWordsAndTwoForEachEntryThatThereCanBe() {
        for (int capacity = 1; capacity <= 16; capacity++) {
            RuntimeHeap heap = new RuntimeHeap();
            heap.newTable(0, capacity);
            Check.same("words", heap.wordsOf(0), 2 + 2 * capacity);
            heap.put(0, 0, 0);
            Check.same("words with an entry", heap.wordsOf(0), 2 + 2 * capacity);
        }
    }

    /** Fills what objects are made of, and has them removed, so that what is made then may lie where they lay. */
    private static void usedBefore(RuntimeHeap heap) {
        eachForm(heap);
        heap.store(0, 1, 0);
        heap.setNumber(0, 2, 9);
        for (int place = 0; place < 4; place++) {
            heap.store(1, place, 1);
            heap.setByte(2, place, 9);
        }
        heap.put(6, 1, 2);
        clearAll(heap);
        heap.collectAll(true);
    }

    static void terms1ReferenceFieldsAndPlacesHoldNothingAtFirst() {
        for (Edge.Act scene : new Edge.Act[] {TermsOfObjectsTest::eachForm,
            Edge.both(TermsOfObjectsTest::usedBefore, heap -> {
                heap.newObject(0, 0);
                heap.newRow(1, 4);
            })}) {
            RuntimeHeap heap = Edge.behind(scene);
            for (int place = 0; place < 4; place++) {
                Check.same("place", heap.load(7, 1, place), -1);
                Check.same("field", heap.load(7, 0, place % 2), -1);
            }
            Check.same("nothing is held by them", heap.referrers(0) + heap.referrers(1), 0);
        }
    }

    static void terms1NumberFieldsAndBytesAreZeroAtFirst() {
        for (Edge.Act scene : new Edge.Act[] {TermsOfObjectsTest::eachForm,
            Edge.both(TermsOfObjectsTest::usedBefore, heap -> {
                heap.newRow(1, 3);
                heap.newObject(0, 0);
                heap.newText(2, 120);
            }), Edge.both(TermsOfObjectsTest::usedBefore, heap -> {
                heap.newText(2, 30);
                heap.newObject(0, 0);
            })}) {
            RuntimeHeap heap = Edge.behind(scene);
            for (int field = 0; field < 3; field++) {
                Check.same("number", heap.getNumber(0, field), 0);
            }
            for (int place = 0; place < heap.lengthOf(2); place++) {
                Check.same("byte", heap.getByte(2, place), 0);
            }
        }
    }

    static void terms1ATableHasNoEntriesAtFirst() {
        for (Edge.Act scene : new Edge.Act[] {TermsOfObjectsTest::eachForm,
            Edge.both(TermsOfObjectsTest::usedBefore, heap -> heap.newTable(6, 16))}) {
            RuntimeHeap heap = Edge.behind(scene);
            Check.same("entries", heap.entriesOf(6), 0);
            Check.no("of itself", heap.remove(6, 6));
        }
    }

    static void terms1ThereAreTwelveKindsAtMostNumberedFromZero() {
        RuntimeHeap heap = new RuntimeHeap();
        for (int kind = 0; kind < 12; kind++) {
            Check.same("defineKind", heap.defineKind(kind - 1, 0, 0, false), kind);
            heap.newObject(0, kind);
            Check.same("kindOf", heap.kindOf(0), kind);
        }
        Check.badState(heap, "the thirteenth", () -> heap.defineKind(-1, 0, 0, false));
        Check.same("kinds", heap.kinds(), 12);
    }

    static void terms1AKindHasAParentOrNoneAndZeroToFourOwnFieldsOfEachSort() {
        for (int references = 0; references <= 4; references++) {
            for (int numbers = 0; numbers <= 4; numbers++) {
                RuntimeHeap heap = new RuntimeHeap();
                Check.same("no parent", heap.defineKind(-1, references, numbers, false), 0);
                Check.same("a parent", heap.defineKind(0, 4 - references, 4 - numbers, false), 1);
                Check.same("no parent", heap.defineKind(-1, references, numbers, false), 2);
                Check.same("references", heap.referencesOf(0), references);
                Check.same("numbers", heap.numbersOf(2), numbers);
                Check.same("with the parent's", heap.referencesOf(1) + heap.numbersOf(1), 8);
                Check.yes("its parent", heap.isKindOf(1, 0));
                Check.no("no parent", heap.isKindOf(2, 0));
            }
        }
        for (int own : new int[] {-1, 5}) {
            Edge.badArgument("references " + own, Edge.NEW, heap -> heap.defineKind(-1, own, 0, false));
            Edge.badArgument("numbers " + own, Edge.NEW, heap -> heap.defineKind(-1, 0, own, false));
        }
    }

    static void terms1AKindIsSaidToBeFinalOrNot() {
        RuntimeHeap heap = new RuntimeHeap();
        heap.defineKind(-1, 0, 0, false);
        heap.defineKind(-1, 0, 0, true);
        Check.no("not", heap.isFinal(0));
        Check.yes("final", heap.isFinal(1));
    }

    static void terms1FieldsAreThoseOfTheParentAndThenTheOwnOnes() {
        RuntimeHeap heap = new RuntimeHeap();
        heap.defineKind(-1, 1, 4, false);
        heap.defineKind(0, 2, 0, false);
        heap.defineKind(1, 4, 3, false);
        int[] references = {1, 3, 7};
        int[] numbers = {4, 4, 7};
        for (int kind = 0; kind < 3; kind++) {
            int object = kind;
            heap.newObject(object, kind);
            Check.same("references", heap.referencesOf(kind), references[kind]);
            Check.same("reference fields", heap.lengthOf(object), references[kind]);
            Check.same("the last reference field", heap.load(7, object, references[kind] - 1), -1);
            Check.badArgument(heap, "one more", () -> heap.load(7, object, references[object]));
            Check.same("numbers", heap.numbersOf(kind), numbers[kind]);
            Check.same("the last number field", heap.setNumber(object, numbers[kind] - 1, 1), 0);
            Check.badArgument(heap, "one more", () -> heap.getNumber(object, numbers[object]));
        }
    }

    static void terms1APlainOfAFinalKindOrWithAFinalAncestorIsFinal() {
        RuntimeHeap heap = new RuntimeHeap();
        boolean[] due = {false, true, true, true, false};
        heap.defineKind(-1, 0, 0, false);
        heap.defineKind(0, 0, 0, true);
        heap.defineKind(1, 0, 0, false);
        heap.defineKind(2, 0, 0, false);
        heap.defineKind(0, 0, 0, false);
        for (int kind = 0; kind < 5; kind++) {
            heap.newObject(kind, kind);
            Check.same("isFinal", heap.isFinal(kind) ? 1 : 0, due[kind] ? 1 : 0);
        }
        heap.newRow(5, 0);
        heap.newText(6, 0);
        clearAll(heap);
        Check.same("not FINAL", heap.collectAll(false), 4);
        for (int kind = 0; kind < 5; kind++) {
            Check.same("FINAL", heap.isPresent(kind) ? 1 : 0, due[kind] ? 1 : 0);
        }
        Check.same("lasts", heap.lasts(), 3);
    }

    // ---- 2 SLOTS

    static void terms2ThereAreOneToEightFrames() {
        RuntimeHeap heap = new RuntimeHeap();
        for (int frames = 2; frames <= 8; frames++) {
            Check.same("push", heap.push(1), frames);
        }
        Check.badState(heap, "the ninth", () -> heap.push(1));
        for (int frames = 7; frames >= 1; frames--) {
            heap.pop(0);
            Check.same("frames", heap.frames(), frames);
        }
        Check.badState(heap, "the only one", () -> heap.pop(0));
    }

    static void terms2AFrameHasOneToEightSlotsNumberedFromZero() {
        for (int slots = 1; slots <= 8; slots++) {
            int most = slots;
            RuntimeHeap heap = new RuntimeHeap();
            heap.push(slots);
            Check.same("slots", heap.slots(), slots);
            for (int slot = 0; slot < slots; slot++) {
                heap.newRow(slot, slot);
            }
            for (int slot = 0; slot < slots; slot++) {
                Check.same("slot " + slot, heap.numberOf(slot), slot);
            }
            Check.noIndex(heap, "one more", () -> heap.numberOf(most));
            Check.noIndex(heap, "-1", () -> heap.numberOf(-1));
        }
        Edge.range(IllegalArgumentException.class, "slots", 1, 8, Edge.NEW, RuntimeHeap::push);
    }

    static void terms2AtFirstThereIsOneFrameWithEightSlots() {
        RuntimeHeap heap = new RuntimeHeap();
        Check.same("frames", heap.frames(), 1);
        Check.same("slots", heap.slots(), 8);
        Check.same("the last slot", heap.newRow(7, 0), 0);
        Check.noIndex(heap, "a ninth", () -> heap.newRow(8, 0));
    }

    static void terms2MethodsNameSlotsOfTheTopFrame() {
        RuntimeHeap heap = Edge.behind(TermsOfObjectsTest::eachForm);
        heap.push(2);
        Check.same("numberOf", heap.numberOf(0), -1);
        heap.newRow(0, 1);
        heap.assign(1, 0);
        Check.same("numberOf", heap.numberOf(1), 7);
        Check.same("lengthOf", heap.lengthOf(0), 1);
        Check.noIndex(heap, "a slot of the frame below", () -> heap.numberOf(2));
        heap.pop(1);
        Check.same("slot 0", heap.numberOf(0), 7);
        for (int slot = 1; slot < 7; slot++) {
            Check.same("slot " + slot, heap.numberOf(slot), slot);
        }
    }

    static void terms2ThereAreEightGlobals() {
        RuntimeHeap heap = new RuntimeHeap();
        for (int global = 0; global < 8; global++) {
            heap.newRow(0, 0);
            heap.toGlobal(global, 0);
        }
        for (int global = 0; global < 8; global++) {
            Check.same("global " + global, heap.globalNumber(global), global);
            Check.same("fromGlobal", heap.fromGlobal(1, global), global);
        }
        for (int global : new int[] {-1, 8}) {
            Check.noIndex(heap, "global " + global, () -> heap.globalNumber(global));
            Check.noIndex(heap, "toGlobal " + global, () -> heap.toGlobal(global, 0));
            Check.noIndex(heap, "fromGlobal " + global, () -> heap.fromGlobal(0, global));
        }
    }

    static void terms2EachSlotAndGlobalHoldsAnObjectOrNothing() {
        RuntimeHeap heap = new RuntimeHeap();
        heap.newRow(0, 0);
        for (int i = 0; i < 8; i++) {
            heap.assign(i, 0);
            heap.toGlobal(i, 0);
        }
        for (int i = 7; i >= 0; i--) {
            Check.same("slot", heap.numberOf(i), 0);
            Check.same("global", heap.globalNumber(i), 0);
            heap.clear(i);
            heap.toGlobal(i, i);
            Check.same("slot", heap.numberOf(i), -1);
            Check.same("global", heap.globalNumber(i), -1);
        }
        heap.newRow(0, 0);
        heap.fromGlobal(0, 0);
        Check.same("from an empty global", heap.numberOf(0), -1);
    }

    static void terms2SlotsAndGlobalsHoldNothingAtFirst() {
        RuntimeHeap heap = new RuntimeHeap();
        for (int i = 0; i < 8; i++) {
            Check.same("slot", heap.numberOf(i), -1);
            Check.same("global", heap.globalNumber(i), -1);
            heap.newRow(i, 0);
        }
        heap.push(8);
        for (int slot = 0; slot < 8; slot++) {
            Check.same("slot of a new frame", heap.numberOf(slot), -1);
            heap.newRow(slot, 0);
        }
        heap.pop(0);
        heap.push(8);
        for (int slot = 0; slot < 8; slot++) {
            Check.same("slot of a frame where one was", heap.numberOf(slot), -1);
        }
    }

    static void terms2TheQueueAndTheLastRowHaveNoneAtFirst() {
        RuntimeHeap heap = new RuntimeHeap();
        Check.same("queued", heap.queued(), 0);
        Check.same("lasts", heap.lasts(), 0);
        heap.newRow(0, 0);
        Check.same("poll", heap.poll(0), -1);
        Check.same("takeLast", heap.takeLast(0), -1);
        Check.same("slot 0", heap.numberOf(0), 0);
    }

    /** ROWs that the first and last slot of three frames and the first and last global hold, and one that none does. */
    private static void heldByRoots(RuntimeHeap heap) {
        for (int global : new int[] {0, 7}) {
            heap.newRow(0, 0);
            heap.toGlobal(global, 0);
        }
        heap.newRow(0, 0);
        heap.newRow(7, 0);
        heap.push(3);
        heap.newRow(0, 0);
        heap.newRow(2, 0);
        heap.push(2);
        heap.newRow(0, 0);
        heap.newRow(1, 0);
        heap.newRow(1, 0);
    }

    static void terms2RootsAreAllSlotsOfAllFramesAndAllGlobals() {
        RuntimeHeap heap = Edge.behind(TermsOfObjectsTest::heldByRoots);
        for (int number = 0; number < 9; number++) {
            Check.same("reached " + number, heap.isReached(number) ? 1 : 0, number == 7 ? 0 : 1);
            Check.same("distance " + number, heap.distance(number), number == 7 ? -1 : 0);
        }
        Check.same("removed", heap.collectAll(true), 1);
        Check.same("roots hold", heap.beginMarking(), 8);
    }

    static void terms2RootsAreTheQueueAndTheLastRow() {
        RuntimeHeap heap = new RuntimeHeap();
        heap.defineKind(-1, 0, 0, true);
        heap.newObject(0, 0);
        heap.newWeak(1, 0, true);
        heap.newWeak(2, 0, true);
        heap.newObject(3, 0);
        heap.clear(0);
        heap.clear(3);
        heap.collectAll(false);
        heap.clear(1);
        heap.clear(2);
        for (int number = 0; number < 4; number++) {
            Check.yes("reached", heap.isReached(number));
            Check.same("distance", heap.distance(number), 0);
        }
        Check.same("removed", heap.collectAll(true), 0);
        Check.same("roots hold", heap.beginMarking(), 4);
        heap.step(50);
        for (int i = 0; i < 2; i++) {
            heap.poll(0);
            heap.takeLast(1);
        }
        Check.same("removed, when they are taken out", heap.collectAll(false), 2);
    }
}
