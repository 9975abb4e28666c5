/** The document's Terms 6 MARKING, 7 NETS AND IMAGES, and what is said of exceptions: one test for each sentence. */
final class TermsOfMarkingTest {
    public static void main(String[] args) {
        Check.runAll(TermsOfMarkingTest.class);
    }

    private static void clearAll(RuntimeHeap heap) {
        for (int slot = 0; slot < heap.slots(); slot++) {
            heap.clear(slot);
        }
    }

    /** Ends marking, and answers how many it visits up to then. */
    private static int visits(RuntimeHeap heap) {
        int visits = 0;
        while (heap.isMarking() && visits < 1000) {
            visits += heap.step(7);
        }
        return visits;
    }

    private static void image(String what, RuntimeHeap heap, int from, int... due) {
        Check.same(what + ": length", heap.writeImage(from), due.length);
        Check.same(what + ": length", heap.imageLength(), due.length);
        for (int place = 0; place < heap.imageLength() && place < due.length; place++) {
            Check.same(what + ": place " + place, heap.imageAt(place), due[place]);
        }
    }

    /** What readImage answers for these numbers, in a memory with two kinds: 1 reference and 1 number, 2 and none. */
    private static int read(int... numbers) {
        RuntimeHeap heap = new RuntimeHeap();
        Fill.image(heap, numbers);
        heap.defineKind(-1, 1, 1, false);
        heap.defineKind(-1, 2, 0, false);
        int made = heap.made();
        int answer = heap.readImage(0);
        Check.same("made", heap.made() - made, answer < 0 ? 0 : numbers[0]);
        return answer < 0 ? answer : answer - made;
    }

    // ---- 6 MARKING

    static void terms6MarkingIsOffAtFirst() {
        RuntimeHeap heap = new RuntimeHeap();
        Check.no("isMarking", heap.isMarking());
        Check.badState(heap, "step", () -> heap.step(1));
        heap.collectYoung();
        heap.collectAll(false);
        heap.beginMarking();
        Check.yes("isMarking", heap.isMarking());
    }

    static void terms6ThePictureIsOfWhatRootsAndFieldsAndReferentsAndEntriesHoldThen() {
        RuntimeHeap heap = new RuntimeHeap();
        heap.newObject(0, heap.defineKind(-1, 1, 0, false));
        heap.newRow(1, 1);
        heap.newText(7, 0);
        heap.store(0, 0, 7);
        heap.newText(7, 0);
        heap.store(1, 0, 7);
        heap.newText(7, 0);
        heap.newSoft(2, 7, true);
        heap.newTable(3, 1);
        heap.newText(7, 0);
        heap.put(3, 3, 7);
        heap.clear(7);
        heap.toGlobal(0, 1);
        heap.clear(1);
        Check.same("roots hold", heap.beginMarking(), 4);
        Check.same("visits", visits(heap), 8);
    }

    static void terms6ThePictureStaysAsItWasWhateverIsChanged() {
        RuntimeHeap heap = new RuntimeHeap();
        heap.newObject(0, heap.defineKind(-1, 1, 0, false));
        heap.newRow(1, 1);
        heap.newSoft(2, 0, true);
        heap.newTable(3, 1);
        for (int slot = 4; slot < 7; slot++) {
            heap.newText(slot, 0);
        }
        heap.store(0, 0, 4);
        heap.store(1, 0, 5);
        heap.put(3, 3, 6);
        for (int slot = 4; slot < 7; slot++) {
            heap.clear(slot);
        }
        heap.toGlobal(7, 0);
        heap.push(2);
        heap.newText(0, 0);
        heap.beginMarking();
        heap.pop(1);
        heap.fromGlobal(0, 7);
        heap.toGlobal(7, 6);
        heap.store(0, 0, 7);
        heap.store(1, 0, 1);
        heap.remove(3, 3);
        heap.forget(2);
        clearAll(heap);
        Check.same("visits", visits(heap), 8);
        Check.same("objects", heap.objects(), 8);
        Check.same("they go by the next collection", heap.collectAll(false), 8);
    }

    static void terms6WhatIsChangedDoesNotComeIntoThePicture() {
        RuntimeHeap heap = new RuntimeHeap();
        heap.newRow(0, 0);
        heap.newWeak(0, 0, true);
        heap.newObject(1, heap.defineKind(-1, 1, 0, false));
        heap.newRow(2, 1);
        heap.newTable(3, 2);
        heap.put(3, 1, 7);
        heap.beginMarking();
        heap.newText(4, 0);
        heap.store(1, 0, 4);
        heap.store(2, 0, 4);
        heap.put(3, 1, 4);
        heap.put(3, 2, 4);
        heap.read(5, 0);
        Check.same("WEAK, PLAIN, ROW, TABLE and what was read", visits(heap), 5);
    }

    static void terms6WhatIsMadeWhileMarkingIsOnIsNew() {
        RuntimeHeap heap = new RuntimeHeap();
        heap.defineKind(-1, 0, 0, false);
        heap.newText(0, 0);
        heap.writeImage(0);
        heap.beginMarking();
        heap.newObject(1, 0);
        heap.newRow(1, 0);
        heap.newText(1, 0);
        heap.newWeak(2, 1, true);
        heap.newSoft(2, 1, true);
        heap.newPhantom(2, 1);
        heap.newTable(2, 1);
        heap.deepCopy(2, 1);
        heap.readImage(2);
        clearAll(heap);
        Check.same("visits", visits(heap), 1);
        for (int number = 1; number <= 9; number++) {
            Check.yes("kept " + number, heap.isPresent(number));
        }
        RuntimeHeap other = new RuntimeHeap();
        other.newText(0, 0);
        other.clear(0);
        other.beginMarking();
        visits(other);
        Check.no("one made ahead", other.isPresent(0));
    }

    /** WEAKs in the slots 0 and 1 of two ROWs that nothing holds. */
    private static void weaks(RuntimeHeap heap) {
        for (int slot = 0; slot < 2; slot++) {
            heap.newRow(slot, 0);
            heap.newWeak(slot, slot, false);
        }
    }

    static void terms6ReadIsWhatReadPutsIntoASlotWhileMarkingIsOn() {
        RuntimeHeap heap = Edge.behind(TermsOfMarkingTest::weaks);
        heap.read(2, 1);
        heap.clear(2);
        heap.beginMarking();
        heap.read(2, 0);
        heap.clear(2);
        heap.refersTo(1, 0);
        heap.forget(1);
        Check.same("visits", visits(heap), 3);
        Check.yes("read while it was on", heap.isPresent(0));
        Check.no("read ahead, and asked for", heap.isPresent(2));
    }

    /** An INTERNED TEXT 0 of 2 zeros that nothing holds, and the IMAGE of it. */
    private static void unreachedText(RuntimeHeap heap) {
        heap.newText(0, 2);
        heap.intern(0, 0);
        heap.writeImage(0);
        heap.clear(0);
    }

    static void terms6ReadIsTheInternedTextThatInternOrReadImageFinds() {
        Edge.Act[] finds = {heap -> {
            heap.newText(1, 2);
            heap.intern(1, 1);
        }, heap -> heap.readImage(1)};
        for (Edge.Act find : finds) {
            RuntimeHeap heap = Edge.behind(TermsOfMarkingTest::unreachedText);
            heap.beginMarking();
            find.on(heap);
            clearAll(heap);
            Check.same("visits", visits(heap), 1);
            Check.yes("it is kept", heap.isPresent(0));
            RuntimeHeap ahead = Edge.behind(TermsOfMarkingTest::unreachedText);
            find.on(ahead);
            clearAll(ahead);
            ahead.beginMarking();
            Check.same("found ahead", visits(ahead), 0);
            Check.no("it goes", ahead.isPresent(0));
        }
    }

    static void terms6NewAndReadCountForThisMarkingOnly() {
        RuntimeHeap heap = Edge.behind(TermsOfMarkingTest::weaks);
        heap.beginMarking();
        heap.newRow(3, 0);
        heap.read(2, 0);
        heap.clear(2);
        heap.clear(3);
        Check.same("WEAKs and the READ one", visits(heap), 3);
        Check.yes("the NEW one", heap.isPresent(4));
        heap.beginMarking();
        Check.same("only the WEAKs", visits(heap), 2);
        Check.no("what was READ", heap.isPresent(0));
        Check.no("what was NEW", heap.isPresent(4));
    }

    static void terms6ToKeepIsWhatIsReachedByThePictureFromItsRootsAndReadOnesTogether() {
        RuntimeHeap heap = new RuntimeHeap();
        heap.newRow(0, 1);
        heap.newText(1, 0);
        heap.store(0, 0, 1);
        heap.newTable(2, 1);
        heap.newText(3, 0);
        heap.put(2, 0, 3);
        heap.newWeak(4, 0, true);
        heap.newWeak(5, 0, true);
        for (int slot : new int[] {0, 1, 3}) {
            heap.clear(slot);
        }
        heap.beginMarking();
        Check.same("read", heap.read(6, 4), 0);
        heap.store(6, 0, 7);
        clearAll(heap);
        Check.same("TABLE, 2 WEAKs; ROW, what it held, and the value by TABLE and key", visits(heap), 6);
        Check.same("objects", heap.objects(), 6);
    }

    static void terms6AReadOneThatIsNewIsNotToKeep() {
        RuntimeHeap heap = new RuntimeHeap();
        heap.beginMarking();
        heap.newRow(0, 0);
        heap.newWeak(1, 0, true);
        heap.read(2, 1);
        heap.newText(3, 0);
        heap.intern(3, 3);
        heap.newText(4, 0);
        heap.intern(4, 4);
        Check.same("visits", heap.step(50), 0);
        Check.no("marking is on", heap.isMarking());
    }

    static void terms6ToKeepIsNotPressed() {
        RuntimeHeap heap = new RuntimeHeap();
        heap.newText(0, 0);
        heap.newSoft(0, 0, true);
        heap.beginMarking();
        Check.same("SOFT and TEXT", visits(heap), 2);
        heap.newText(1, 0);
        heap.newSoft(1, 1, true);
        heap.newWeak(1, 1, true);
        heap.beginMarking();
        heap.read(2, 1);
        heap.clear(2);
        Check.same("these, and WEAK, SOFT and TEXT", visits(heap), 5);
        Check.same("objects", heap.objects(), 5);
    }

    private static void rowsInOne(RuntimeHeap heap, int rows) {
        heap.newRow(0, rows);
        for (int place = 0; place < rows; place++) {
            heap.newRow(1, 0);
            heap.store(0, place, 1);
        }
        heap.clear(1);
    }

    static void terms6AStepVisitsAsManyAsItIsToldOrAllThatAreLeft() {
        RuntimeHeap heap = Edge.behind(scene -> rowsInOne(scene, 9));
        heap.beginMarking();
        Check.same("3 of 10", heap.step(3), 3);
        Check.same("1 of 7", heap.step(1), 1);
        Check.same("4 of 6", heap.step(4), 4);
        Check.yes("marking is on", heap.isMarking());
        Check.same("2 are left", heap.step(50), 2);
    }

    static void terms6MarkingEndsInTheStepBehindWhichNoneIsLeft() {
        for (int last = 1; last <= 4; last++) {
            RuntimeHeap heap = Edge.behind(scene -> rowsInOne(scene, 4));
            heap.beginMarking();
            heap.step(5 - last);
            Check.yes("it is on up to then", heap.isMarking());
            Check.same("the last step", heap.step(last), last);
            Check.no("it is off", heap.isMarking());
            Check.same("full collections", heap.fullCollections(), 1);
        }
    }

    static void terms6AlsoIfThereNeverWasOne() {
        RuntimeHeap heap = new RuntimeHeap();
        heap.newRow(0, 0);
        heap.clear(0);
        heap.beginMarking();
        Check.yes("it is on up to a step", heap.isMarking());
        Check.same("step", heap.step(1), 0);
        Check.no("it is off", heap.isMarking());
        Check.same("full collections", heap.fullCollections(), 1);
        Check.same("objects", heap.objects(), 0);
    }

    static void terms6AtItsEndAFullCollectionIsDoneThatIsNotPressed() {
        RuntimeHeap heap = new RuntimeHeap();
        heap.defineKind(-1, 1, 0, true);
        heap.newObject(0, 0);
        heap.newText(1, 0);
        heap.newSoft(1, 1, true);
        heap.store(0, 0, 1);
        heap.newTable(2, 2);
        heap.newText(3, 0);
        heap.put(2, 3, 3);
        heap.put(2, 2, 2);
        heap.newWeak(4, 3, true);
        heap.newPhantom(5, 3);
        for (int slot : new int[] {0, 1, 3}) {
            heap.clear(slot);
        }
        heap.beginMarking();
        Check.same("visits", visits(heap), 3);
        Check.same("the LAST ROW", heap.takeLast(0), 0);
        Check.yes("what it reaches by a SOFT", heap.isPresent(1));
        for (int number : new int[] {2, 5, 6, -1}) {
            Check.same("the QUEUE", heap.poll(7), number);
        }
        Check.same("entries", heap.entriesOf(2), 1);
        Check.no("what was not KEPT", heap.isPresent(4));
        Check.yes("OLD", heap.isOld(0) && heap.isOld(2) && heap.isOld(5));
        Check.same("full collections", heap.fullCollections(), 1);
        Check.same("young collections", heap.youngCollections(), 0);
    }

    static void terms6AtItsEndStrongAreThoseToKeepAndNewOnes() {
        RuntimeHeap heap = new RuntimeHeap();
        heap.defineKind(-1, 0, 0, true);
        heap.newObject(0, 0);
        heap.newWeak(1, 0, true);
        heap.beginMarking();
        heap.newObject(2, 0);
        heap.newWeak(3, 2, true);
        heap.clear(0);
        heap.clear(2);
        Check.same("visits", visits(heap), 2);
        Check.same("no FINAL one that is STRONG goes to the LAST ROW", heap.lasts(), 0);
        Check.no("of one TO KEEP", heap.isCleared(1));
        Check.no("of a NEW one", heap.isCleared(3));
        Check.same("objects", heap.objects(), 4);
    }

    // ---- 7 NETS AND IMAGES

    static void terms7TheNetIsWhatOneComesToByFieldsAndPlacesAsFarAsItIsPlainRowOrText() {
        RuntimeHeap heap = new RuntimeHeap();
        heap.newObject(0, heap.defineKind(-1, 1, 0, false));
        heap.newRow(1, 7);
        heap.store(0, 0, 1);
        heap.newText(2, 1);
        heap.newText(3, 2);
        heap.newWeak(4, 3, true);
        heap.newSoft(5, 3, true);
        heap.newPhantom(6, 3);
        heap.newTable(7, 1);
        heap.put(7, 1, 3);
        heap.store(1, 0, 0);
        for (int slot = 2; slot <= 7; slot++) {
            heap.store(1, slot - 1, slot == 3 ? 2 : slot);
        }
        image("of the PLAIN", heap, 0, 3, 0, 0, 2, 1, 7, 1, 3, 3, 0, 0, 0, 0, 2, 1, 0);
        int made = heap.made();
        heap.deepCopy(3, 0);
        Check.same("copies", heap.made() - made, 3);
        image("of a TEXT alone", heap, 2, 1, 2, 1, 0);
    }

    static void terms7AnImageHasFourHundredNumbersAtMost() {
        for (int length = 31; length <= 32; length++) {
            int places = length;
            RuntimeHeap heap = new RuntimeHeap();
            heap.newRow(0, places);
            for (int place = 0; place < 3; place++) {
                heap.newText(1, 120);
                heap.store(0, place, 1);
            }
            Check.same("1 + 2 + " + places + " + 3 * 122", heap.writeImage(0), places == 31 ? 400 : -1);
            Check.same("imageLength", heap.imageLength(), places == 31 ? 400 : 0);
        }
    }

    static void terms7ThereIsNoneAtFirst() {
        RuntimeHeap heap = new RuntimeHeap();
        Check.same("imageLength", heap.imageLength(), 0);
        Check.same("readImage", heap.readImage(0), -2);
        Check.noIndex(heap, "imageAt", () -> heap.imageAt(0));
        Check.noIndex(heap, "setImage", () -> heap.setImage(0, 1));
    }

    static void terms7FirstHowManyObjectsTheNetHas() {
        for (int rows = 0; rows <= 40; rows += 8) {
            int places = rows;
            RuntimeHeap heap = Edge.behind(scene -> rowsInOne(scene, places));
            heap.writeImage(0);
            Check.same("objects", heap.imageAt(0), 1 + rows);
        }
    }

    /** A ROW in slot 0 of a ROW and, twice, a TEXT of 2 bytes; that ROW holds a TEXT of 1 byte and the other one. */
    private static void twoLevels(RuntimeHeap heap) {
        heap.newText(3, 2);
        heap.newRow(1, 2);
        heap.newText(2, 1);
        heap.newRow(0, 4);
        heap.store(0, 1, 1);
        heap.store(0, 2, 3);
        heap.store(0, 3, 3);
        heap.store(1, 0, 2);
        heap.store(1, 1, 3);
    }

    static void terms7ThenTheObjectItselfFirst() {
        RuntimeHeap heap = Edge.behind(TermsOfMarkingTest::twoLevels);
        heap.store(1, 1, 0);
        image("of the outer one", heap, 0, 4, 1, 4, 0, 2, 3, 3, 1, 2, 4, 1, 2, 2, 0, 0, 2, 1, 0);
        image("of the inner one", heap, 1, 4, 1, 2, 2, 3, 2, 1, 0, 1, 4, 0, 1, 4, 4, 2, 2, 0, 0);
    }

    static void terms7ThenObjectByObjectWhatTheseHoldAsFarAsItIsNotInTheRowYet() {
        RuntimeHeap heap = Edge.behind(TermsOfMarkingTest::twoLevels);
        image("ROW, ROW, TEXT of 2, TEXT of 1", heap, 0, 4, 1, 4, 0, 2, 3, 3, 1, 2, 4, 3, 2, 2, 0, 0, 2, 1, 0);
    }

    static void terms7APlainIsWrittenAsZeroKindReferencesNumbers() {
        RuntimeHeap heap = new RuntimeHeap();
        heap.defineKind(-1, 0, 0, false);
        heap.newObject(0, heap.defineKind(-1, 2, 3, false));
        heap.store(0, 1, 0);
        heap.setNumber(0, 0, Integer.MIN_VALUE);
        heap.setNumber(0, 2, 7);
        image("PLAIN", heap, 0, 1, 0, 1, 0, 1, Integer.MIN_VALUE, 0, 7);
        heap.newObject(0, 0);
        image("without fields", heap, 0, 1, 0, 0);
    }

    static void terms7ARowIsWrittenAsOneLengthPlaces() {
        RuntimeHeap heap = new RuntimeHeap();
        heap.newRow(0, 3);
        heap.store(0, 2, 0);
        image("ROW", heap, 0, 1, 1, 3, 0, 0, 1);
        heap.newRow(0, 0);
        image("without places", heap, 0, 1, 1, 0);
    }

    static void terms7ATextIsWrittenAsTwoLengthBytes() {
        RuntimeHeap heap = new RuntimeHeap();
        heap.newText(0, 3);
        heap.setByte(0, 1, 255);
        image("TEXT", heap, 0, 1, 2, 3, 0, 255, 0);
        heap.newText(0, 0);
        image("without bytes", heap, 0, 1, 2, 0);
    }

    static void terms7AnInternedTextIsWrittenAsThreeLengthBytes() {
        RuntimeHeap heap = new RuntimeHeap();
        heap.newText(0, 3);
        heap.setByte(0, 1, 255);
        heap.intern(0, 0);
        image("INTERNED TEXT", heap, 0, 1, 3, 3, 0, 255, 0);
        heap.newText(1, 3);
        heap.setByte(1, 1, 255);
        image("one with the same bytes", heap, 1, 1, 2, 3, 0, 255, 0);
    }

    static void terms7AReferenceIsZeroForNothingAndForWhatIsNotOfTheNet() {
        RuntimeHeap heap = new RuntimeHeap();
        heap.newRow(0, 5);
        heap.newWeak(1, 0, true);
        heap.newSoft(2, 0, true);
        heap.newPhantom(3, 0);
        heap.newTable(4, 1);
        for (int place = 1; place < 5; place++) {
            heap.store(0, place, place);
        }
        image("ROW", heap, 0, 1, 1, 5, 0, 0, 0, 0, 0);
    }

    static void terms7OtherwiseItIsOneMoreThanHowManyStandAhead() {
        RuntimeHeap heap = new RuntimeHeap();
        heap.newRow(0, 3);
        for (int place = 2; place >= 0; place--) {
            heap.newRow(1, 1);
            heap.store(1, 0, 0);
            heap.store(0, place, 1);
        }
        image("ROW", heap, 0, 4, 1, 3, 2, 3, 4, 1, 1, 1, 1, 1, 1, 1, 1, 1);
    }

    static void terms7AnImageIsWellFormedIfItBeginsWithANumberOfOneOrMore() {
        Check.same("1", read(1, 1, 0), 0);
        Check.same("2", read(2, 1, 0, 2, 0), 0);
        for (int number : new int[] {0, -1, Integer.MIN_VALUE}) {
            Check.same("" + number, read(number, 1, 0), -2);
            Check.same("" + number, read(number, 1, 0, 1, 0), -2);
        }
        Check.same("the greatest", read(Integer.MAX_VALUE, 1, 0), -2);
    }

    static void terms7AndBehindItComeAsManyObjects() {
        Check.same("one of two", read(2, 1, 0, 1), -2);
        Check.same("one of two", read(2, 2, 1, 0), -2);
        Check.same("not all of its places", read(1, 1, 2, 0), -2);
        Check.same("not all of its bytes", read(1, 2, 2, 0), -2);
        Check.same("not all of its fields", read(1, 0, 0, 0), -2);
        Check.same("not all of its fields", read(1, 0, 1, 0), -2);
        int[] noRoomForTheLast = Fill.withZeros(1, Fill.emptyTexts(199));
        noRoomForTheLast[0] = 200;
        noRoomForTheLast[399] = 2;
        Check.same("the last of 400 numbers begins one", read(noRoomForTheLast), -2);
        Check.same("all", read(1, 0, 0, 0, 0), 0);
        Check.same("all", read(4, 0, 1, 3, 4, 1, 1, 2, 2, 1, 9, 3, 0), 0);
    }

    static void terms7AndNothingElse() {
        Check.same("a number more", read(1, 1, 0, 0), -2);
        Check.same("an object more", read(1, 1, 0, 1, 0), -2);
        Check.same("a field more", read(1, 0, 0, 0, 0, 0), -2);
    }

    static void terms7EachBeginsWithZeroToThree() {
        for (int form = 0; form <= 3; form++) {
            Check.same("" + form, form == 0 ? read(1, 0, 0, 0, 0) : read(1, form, 0), 0);
        }
        for (int form : new int[] {-1, 4, 5, 6, 7, Integer.MIN_VALUE, Integer.MAX_VALUE}) {
            Check.same("" + form, read(1, form, 0), -2);
            Check.same("the second one " + form, read(2, 1, 0, form, 0), -2);
        }
    }

    static void terms7KindsAreThere() {
        Check.same("kind 0", read(1, 0, 0, 0, 0), 0);
        Check.same("kind 1", read(1, 0, 1, 0, 0), 0);
        for (int kind : new int[] {-1, 2, 12, Integer.MIN_VALUE, Integer.MAX_VALUE}) {
            Check.same("kind " + kind, read(1, 0, kind), -2);
            Check.same("kind " + kind, read(1, 0, kind, 0, 0), -2);
        }
    }

    static void terms7LengthsAreInTheirRange() {
        for (int form = 1; form <= 3; form++) {
            int most = form == 1 ? 40 : 120;
            Check.same("the most", read(Fill.withZeros(most, 1, form, most)), 0);
            Check.same("one more", read(Fill.withZeros(most + 1, 1, form, most + 1)), -2);
            Check.same("the least", read(1, form, 0), 0);
            for (int length : new int[] {-1, -2, -10, Integer.MIN_VALUE, Integer.MAX_VALUE}) {
                Check.same("length " + length, read(1, form, length), -2);
                Check.same("of the first of two", read(2, form, length, 1, 0), -2);
            }
        }
    }

    static void terms7ReferencesAreZeroToTheNumberOfObjects() {
        for (int reference : new int[] {0, 1, 2}) {
            Check.same("of a ROW " + reference, read(2, 1, 1, reference, 1, 0), 0);
            Check.same("of a PLAIN " + reference, read(2, 0, 0, reference, 0, 1, 0), 0);
        }
        for (int reference : new int[] {-1, 3, Integer.MIN_VALUE, Integer.MAX_VALUE}) {
            Check.same("of a ROW " + reference, read(2, 1, 1, reference, 1, 0), -2);
            Check.same("of a PLAIN " + reference, read(2, 0, 0, reference, 0, 1, 0), -2);
            Check.same("a number field " + reference, read(2, 0, 0, 0, reference, 1, 0), 0);
        }
    }

    static void terms7BytesAreZeroToTwoHundredAndFiftyFive() {
        for (int form = 2; form <= 3; form++) {
            Check.same("the least and the most", read(1, form, 2, 0, 255), 0);
            for (int value : new int[] {-1, 256, Integer.MIN_VALUE, Integer.MAX_VALUE}) {
                Check.same("" + value, read(1, form, 1, value), -2);
                Check.same("the last one " + value, read(1, form, 2, 7, value), -2);
            }
        }
    }

    // ---- exceptions, and what each maker does without room

    static void termsAMethodThatThrowsAnExceptionChangesNothing() {
        Edge.Act scene = Fill::everything;
        Class<IndexOutOfBoundsException> index = IndexOutOfBoundsException.class;
        Class<IllegalArgumentException> argument = IllegalArgumentException.class;
        Class<IllegalStateException> state = IllegalStateException.class;
        Edge.refuses(index, "numberOf", scene, heap -> heap.numberOf(5));
        Edge.refuses(index, "imageAt", scene, heap -> heap.imageAt(heap.imageLength()));
        Edge.refuses(index, "fromGlobal", scene, heap -> heap.fromGlobal(0, 8));
        Edge.refuses(index, "referencesOf", scene, heap -> heap.referencesOf(2));
        Edge.refuses(argument, "newRow", scene, heap -> heap.newRow(0, 41));
        Edge.refuses(argument, "load", scene, heap -> heap.load(0, 2, 9));
        Edge.refuses(argument, "getNumber", scene, heap -> heap.getNumber(2, 0));
        Edge.refuses(argument, "setByte", scene, heap -> heap.setByte(2, 0, 256));
        Edge.refuses(argument, "read", scene, heap -> heap.read(0, 2));
        Edge.refuses(argument, "put", scene, heap -> heap.put(1, 2, 3));
        Edge.refuses(argument, "deepCopy", scene, heap -> heap.deepCopy(0, 1));
        Edge.refuses(argument, "retained", scene, heap -> heap.retained(0));
        Edge.refuses(argument, "setTenure", scene, heap -> heap.setTenure(5));
        Edge.refuses(argument, "step", scene, heap -> heap.step(51));
        Edge.refuses(argument, "push", scene, heap -> heap.push(9));
        Edge.refuses(argument, "defineKind", scene, heap -> heap.defineKind(0, 5, 0, true));
        Edge.refuses(state, "collectYoung", scene, RuntimeHeap::collectYoung);
        Edge.refuses(state, "collectAll", scene, heap -> heap.collectAll(true));
        Edge.refuses(state, "beginMarking", scene, RuntimeHeap::beginMarking);
        Edge.refuses(state, "setByte", Edge.both(scene, heap -> heap.intern(0, 2)), heap -> heap.setByte(0, 0, 1));
    }

    static void termsTheExceptionThatIsNamedFirstIsThrown() {
        Edge.Act scene = heap -> {
            heap.defineKind(-1, 4, 4, false);
            while (heap.kinds() < 12) {
                heap.defineKind(-1, 0, 0, false);
            }
            heap.newText(0, 1);
            heap.intern(0, 0);
        };
        Edge.noIndex("defineKind: of three", scene, heap -> heap.defineKind(12, 5, 5, true));
        Edge.badArgument("defineKind: of two", scene, heap -> heap.defineKind(0, 5, 0, true));
        Edge.badState("defineKind: the last one", scene, heap -> heap.defineKind(0, 4, 4, true));
        Edge.noIndex("setByte: of three", scene, heap -> heap.setByte(8, 0, 256));
        Edge.badArgument("setByte: of two", scene, heap -> heap.setByte(0, 1, 1));
        Edge.badArgument("setByte: of two", scene, heap -> heap.setByte(0, 0, 256));
        Edge.badState("setByte: the last one", scene, heap -> heap.setByte(0, 0, 255));
        Edge.noIndex("newRow", scene, heap -> heap.newRow(8, 41));
        Edge.noIndex("newText", scene, heap -> heap.newText(8, 121));
        Edge.noIndex("newTable", scene, heap -> heap.newTable(8, 17));
        Edge.noIndex("newObject", scene, heap -> heap.newObject(8, 12));
        Edge.noIndex("newWeak", scene, heap -> heap.newWeak(8, 1, true));
        Edge.noIndex("newSoft", scene, heap -> heap.newSoft(8, 1, true));
        Edge.noIndex("newPhantom", scene, heap -> heap.newPhantom(8, 1));
        Edge.noIndex("load", scene, heap -> heap.load(8, 0, 0));
        Edge.noIndex("store", scene, heap -> heap.store(0, 0, 8));
        Edge.noIndex("read", scene, heap -> heap.read(8, 1));
        Edge.noIndex("refersTo", scene, heap -> heap.refersTo(1, 8));
        Edge.noIndex("put", scene, heap -> heap.put(0, 1, 8));
        Edge.noIndex("put, remove: key", scene, heap -> heap.remove(1, 8));
        Edge.noIndex("get", scene, heap -> heap.get(8, 0, 1));
        Edge.noIndex("intern", scene, heap -> heap.intern(8, 1));
        Edge.noIndex("deepCopy", scene, heap -> heap.deepCopy(8, 1));
        Edge.noIndex("sameShape", scene, heap -> heap.sameShape(1, 8));
        Edge.noIndex("pop", scene, heap -> heap.pop(8));
        Edge.badArgument("step", scene, heap -> heap.step(51));
        Edge.badArgument("push", Edge.both(scene, heap -> {
            while (heap.frames() < 8) {
                heap.push(1);
            }
        }), heap -> heap.push(9));
    }

    static void termsWhoMakesAnObjectAsksForRoomForItsWords() {
        Edge.Ask[] makers = {heap -> heap.newObject(7, 0), heap -> heap.newRow(7, 3), heap -> heap.newText(7, 12),
            heap -> heap.newWeak(7, 1, true), heap -> heap.newSoft(7, 1, true), heap -> heap.newPhantom(7, 1),
            heap -> heap.newTable(7, 2)};
        int[] words = {5, 5, 5, 3, 3, 3, 6};
        for (int i = 0; i < makers.length; i++) {
            for (int less = 0; less <= 1; less++) {
                RuntimeHeap heap = new RuntimeHeap();
                heap.defineKind(-1, 2, 1, false);
                Fill.words(heap, 320, 96 - words[i] + less - 2);
                heap.newRow(1, 0);
                int made = heap.made();
                Check.same("maker " + i, (Integer) makers[i].of(heap), less == 0 ? made : -1);
                Check.same("full collections", heap.fullCollections(), less == 0 ? 0 : 3);
            }
        }
    }

    static void termsIfThereIsNoneTheSlotStaysAsItIs() {
        Edge.Ask[] makers = {heap -> heap.newObject(1, 0), heap -> heap.newRow(1, 0), heap -> heap.newText(1, 0),
            heap -> heap.newWeak(1, 2, true), heap -> heap.newSoft(1, 2, true), heap -> heap.newPhantom(1, 2),
            heap -> heap.newTable(1, 1)};
        for (Edge.Ask maker : makers) {
            RuntimeHeap heap = new RuntimeHeap();
            heap.defineKind(-1, 0, 0, false);
            Fill.words(heap, 320, 92);
            heap.newRow(1, 0);
            heap.newRow(2, 0);
            int held = heap.numberOf(1);
            Check.same("no room", (Integer) maker.of(heap), -1);
            Check.same("slot 1", heap.numberOf(1), held);
            Check.same("made", heap.made(), held + 2);
        }
    }
}
