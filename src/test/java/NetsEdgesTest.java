/** Boundary cases of the promises 30 to 34: texts of which there is one, copies, images. */
final class NetsEdgesTest {
    private static final Class<IndexOutOfBoundsException> INDEX = IndexOutOfBoundsException.class;

    // What a slot holds in SORTS: one object of each form; nothing in slot 7.
    private static final int PLAIN = 0;
    private static final int ROW = 1;
    private static final int TEXT = 2;
    private static final int WEAK = 3;
    private static final int SOFT = 4;
    private static final int PHANTOM = 5;
    private static final int TABLE = 6;
    private static final int NOTHING = 7;

    private static final Edge.Act SORTS = NetsEdgesTest::sorts;

    public static void main(String[] args) {
        Check.runAll(NetsEdgesTest.class);
    }

    private static void sorts(RuntimeHeap heap) {
        heap.defineKind(-1, 2, 2, false);
        heap.newObject(PLAIN, 0);
        heap.newRow(ROW, 4);
        heap.newText(TEXT, 5);
        heap.newWeak(WEAK, ROW, true);
        heap.newSoft(SOFT, ROW, true);
        heap.newPhantom(PHANTOM, ROW);
        heap.newTable(TABLE, 3);
    }

    private static void putText(RuntimeHeap heap, int slot) {
        heap.newText(slot, 1);
    }

    private static void text(RuntimeHeap heap, int slot, int... bytes) {
        heap.newText(slot, bytes.length);
        for (int place = 0; place < bytes.length; place++) {
            heap.setByte(slot, place, bytes[place]);
        }
    }

    private static void wellFormed(String what, Edge.Act scene, int... numbers) {
        RuntimeHeap heap = Edge.behind(Edge.both(scene, made -> Fill.image(made, numbers)));
        int made = heap.made();
        Check.same(what + ": readImage", heap.readImage(0), made);
        Check.same(what + ": what to holds", heap.numberOf(0), made);
    }

    private static void malformed(String what, Edge.Act scene, int... numbers) {
        Edge.changesNothing(what, -2, Edge.both(scene, heap -> Fill.image(heap, numbers)), heap -> heap.readImage(0));
    }

    private static void isImage(String what, RuntimeHeap heap, int... numbers) {
        Check.same(what + ": imageLength", heap.imageLength(), numbers.length);
        for (int place = 0; place < numbers.length && place < heap.imageLength(); place++) {
            Check.same(what + ": number " + place, heap.imageAt(place), numbers[place]);
        }
    }

    // ---- promise 30

    static void promise30ToIsASlot() {
        Edge.slot("intern: to", Edge.NEW, (heap, to) -> putText(heap, 1), (heap, to) -> heap.intern(to, 1));
    }

    static void promise30TextIsASlot() {
        Edge.slot("intern: text", Edge.NEW, NetsEdgesTest::putText, (heap, text) -> heap.intern(1, text));
    }

    static void promise30TextHoldsNoText() {
        for (int text : new int[] {PLAIN, ROW, WEAK, SOFT, PHANTOM, TABLE, NOTHING}) {
            Edge.badArgument("text " + text, SORTS, heap -> heap.intern(NOTHING, text));
        }
    }

    static void promise30SlotsAreLookedAtFirst() {
        Edge.noIndex("to 8, no TEXT", SORTS, heap -> heap.intern(8, ROW));
        Edge.noIndex("to -1, nothing", SORTS, heap -> heap.intern(-1, NOTHING));
        Edge.noIndex("text 8", SORTS, heap -> heap.intern(0, 8));
    }

    static void promise30TheEmptyTextIsOneToo() {
        RuntimeHeap heap = new RuntimeHeap();
        text(heap, 0);
        text(heap, 1);
        Check.same("the first one is it itself", heap.intern(2, 0), 0);
        Check.same("the second one is the first one", heap.intern(3, 1), 0);
        Check.no("the second one itself", heap.isInterned(1));
        Check.same("interned", heap.interned(), 1);
    }

    static void promise30OneByteMoreIsAnotherText() {
        RuntimeHeap heap = new RuntimeHeap();
        text(heap, 0);
        text(heap, 1, 0);
        text(heap, 2, 0, 0);
        for (int slot = 0; slot < 3; slot++) {
            Check.same("only zeros", heap.intern(3, slot), slot);
        }
        Check.same("interned", heap.interned(), 3);
    }

    static void promise30OneByteFewerIsAnotherText() {
        RuntimeHeap heap = new RuntimeHeap();
        text(heap, 2, 0, 0);
        text(heap, 1, 0);
        text(heap, 0);
        for (int slot = 2; slot >= 0; slot--) {
            Check.same("only zeros", heap.intern(3, slot), 2 - slot);
        }
        Check.same("interned", heap.interned(), 3);
    }

    static void promise30TheLastByteCounts() {
        RuntimeHeap heap = new RuntimeHeap();
        heap.newText(0, 120);
        heap.newText(1, 120);
        heap.newText(2, 120);
        heap.setByte(1, 119, 1);
        heap.intern(0, 0);
        Check.same("another last byte", heap.intern(3, 1), 1);
        Check.same("the same bytes", heap.intern(3, 2), 0);
    }

    static void promise30TheFirstByteCounts() {
        RuntimeHeap heap = new RuntimeHeap();
        text(heap, 0, 255, 7);
        text(heap, 1, 254, 7);
        heap.intern(0, 0);
        Check.same("another first byte", heap.intern(3, 1), 1);
    }

    static void promise30AnInternedOneIsItItself() {
        Edge.Act scene = Edge.both(SORTS, heap -> heap.intern(TEXT, TEXT));
        Edge.changesNothing("once more", 2, scene, heap -> heap.intern(TEXT, TEXT));
    }

    static void promise30IntoTheSlotOfTheText() {
        RuntimeHeap heap = new RuntimeHeap();
        text(heap, 0, 1);
        text(heap, 1, 1);
        heap.intern(0, 0);
        Check.same("the other one", heap.intern(1, 1), 0);
        Check.same("what the slot holds then", heap.numberOf(1), 0);
        Check.same("the TEXT goes", heap.collectAll(false), 1);
    }

    static void promise30OneThatIsPresentButNotReachedIsFound() {
        RuntimeHeap heap = new RuntimeHeap();
        text(heap, 0, 1);
        heap.intern(0, 0);
        heap.clear(0);
        text(heap, 1, 1);
        Check.same("intern", heap.intern(1, 1), 0);
        Check.same("it is held again", heap.numberOf(1), 0);
    }

    static void promise30OneThatIsRemovedIsNotFound() {
        RuntimeHeap heap = new RuntimeHeap();
        text(heap, 0, 1);
        heap.intern(0, 0);
        heap.clear(0);
        heap.collectAll(false);
        Check.same("interned", heap.interned(), 0);
        text(heap, 1, 1);
        Check.same("intern", heap.intern(1, 1), 1);
        Check.same("interned", heap.interned(), 1);
    }

    static void promise30InternedForAsLongAsItIsPresent() {
        RuntimeHeap heap = new RuntimeHeap();
        text(heap, 0, 1);
        heap.intern(0, 0);
        heap.collectYoung();
        heap.collectAll(true);
        Check.yes("isInterned", heap.isInterned(0));
    }

    // ---- promise 31

    static void promise31ToIsASlot() {
        Edge.slot("deepCopy: to", Edge.NEW, (heap, to) -> putText(heap, 1), (heap, to) -> heap.deepCopy(to, 1));
    }

    static void promise31FromIsASlot() {
        Edge.slot("deepCopy: from", Edge.NEW, NetsEdgesTest::putText, (heap, from) -> heap.deepCopy(1, from));
    }

    static void promise31FromHoldsNoPlainRowOrText() {
        for (int from : new int[] {WEAK, SOFT, PHANTOM, TABLE, NOTHING}) {
            Edge.badArgument("from " + from, SORTS, heap -> heap.deepCopy(NOTHING, from));
        }
    }

    static void promise31SlotsAreLookedAtFirst() {
        Edge.noIndex("to 8, nothing", SORTS, heap -> heap.deepCopy(8, NOTHING));
        Edge.noIndex("to -1, a WEAK", SORTS, heap -> heap.deepCopy(-1, WEAK));
        Edge.noIndex("from 8", SORTS, heap -> heap.deepCopy(0, 8));
    }

    static void promise31ThirtyTwoWordsAreYoungMoreAreOld() {
        for (int words = 32; words <= 33; words++) {
            RuntimeHeap heap = new RuntimeHeap();
            Fill.net(heap, words);
            Check.same("copy of " + words + " words", heap.deepCopy(2, 0), 2);
            Check.same("OLD", heap.isOld(2) ? 1 : 0, words - 32);
            heap.load(3, 2, 0);
            Check.same("the ROW, which has fewer words, as well", heap.isOld(3) ? 1 : 0, words - 32);
            Check.same("no collections", heap.youngCollections() + heap.fullCollections(), 0);
        }
    }

    static void promise31TheCopyJustFits() {
        for (int more = 0; more <= 1; more++) {
            RuntimeHeap young = new RuntimeHeap();
            Fill.net(young, 32);
            young.toGlobal(7, 0);
            Fill.words(young, 0, 64 + more);
            young.fromGlobal(0, 7);
            Check.yes("32 words", young.deepCopy(1, 0) >= 0);
            int collections = young.youngCollections() + young.fullCollections();
            Check.same("collections with room for " + (32 - more), collections > 0 ? 1 : 0, more);
            RuntimeHeap old = new RuntimeHeap();
            Fill.net(old, 34);
            old.toGlobal(7, 0);
            Fill.words(old, 320 - 34 + more, 34);
            old.fromGlobal(0, 7);
            Check.same("34 words", old.deepCopy(1, 0) >= 0 ? 1 : 0, 1 - more);
            collections = old.youngCollections() + old.fullCollections();
            Check.same("collections with room for " + (34 - more), collections > 0 ? 1 : 0, more);
        }
    }

    static void promise31NoRoomLeavesTheSlotAsItIs() {
        RuntimeHeap heap = new RuntimeHeap();
        Fill.words(heap, 320, 96);
        heap.fromGlobal(0, 0);
        heap.fromGlobal(1, 1);
        int made = heap.made();
        Check.same("deepCopy", heap.deepCopy(1, 0), -1);
        Check.same("to", heap.numberOf(1), heap.globalNumber(1));
        Check.same("made", heap.made(), made);
        Check.same("full collections", heap.fullCollections(), 3);
    }

    static void promise31MoreWordsThanThereCanBeFindNoRoom() {
        RuntimeHeap heap = new RuntimeHeap();
        heap.newRow(0, 40);
        for (int i = 0; i < 7; i++) {
            heap.newRow(1, 40);
            heap.store(0, i, 1);
        }
        Check.same("8 rows of 42 words do not fit into the OLD ones", heap.objects(), 7);
        heap.clear(1);
        for (int i = 0; i < 3; i++) {
            heap.newRow(1, 30);
            heap.store(0, 7 + i, 1);
        }
        heap.clear(1);
        Check.same("words", heap.oldWords() + heap.youngWords(), 7 * 42 + 96);
        Check.same("deepCopy of 390 words", heap.deepCopy(2, 0), -1);
        Check.same("to", heap.numberOf(2), -1);
    }

    static void promise31AnInternedTextIsNotCopied() {
        RuntimeHeap heap = new RuntimeHeap();
        text(heap, 0, 8);
        text(heap, 1, 9);
        heap.intern(1, 1);
        heap.toGlobal(7, 1);
        Check.same("the copy of another TEXT", heap.deepCopy(0, 0), 2);
        heap.toGlobal(6, 0);
        Fill.words(heap, 320, 96);
        heap.fromGlobal(0, 7);
        heap.beginMarking();
        int made = heap.made();
        Check.same("its number, also without any room", heap.deepCopy(1, 0), 1);
        Check.same("to", heap.numberOf(1), 1);
        Check.same("made", heap.made(), made);
        Check.yes("nothing asked for room", heap.isMarking());
        Check.same("collections", heap.youngCollections() + heap.fullCollections(), 0);
    }

    static void promise31InternedTextsOfTheNetAreHeldNotCopied() {
        RuntimeHeap heap = new RuntimeHeap();
        heap.newRow(0, 2);
        text(heap, 1, 9);
        heap.store(0, 0, 1);
        heap.intern(1, 1);
        heap.newText(2, 1);
        heap.store(0, 1, 2);
        Check.same("deepCopy", heap.deepCopy(3, 0), 3);
        Check.same("the INTERNED one", heap.load(4, 3, 0), 1);
        Check.same("the other one", heap.load(4, 3, 1), 4);
        Check.no("its copy", heap.isInterned(4));
        Check.same("made", heap.made(), 5);
    }

    static void promise31WordsOfInternedTextsAreNotAskedFor() {
        RuntimeHeap heap = new RuntimeHeap();
        heap.newRow(0, 1);
        heap.newText(1, 120);
        heap.intern(1, 1);
        heap.store(0, 0, 1);
        heap.clear(1);
        heap.toGlobal(7, 0);
        Fill.words(heap, 0, 93);
        heap.fromGlobal(0, 7);
        Check.yes("3 words", heap.deepCopy(1, 0) >= 0);
        Check.same("young words", heap.youngWords(), 96);
        Check.same("collections", heap.youngCollections() + heap.fullCollections(), 0);
        heap.deepCopy(2, 0);
        Check.yes("but the others are", heap.youngCollections() + heap.fullCollections() > 0);
    }

    static void promise31ByOneWordThereIsNoRoomForTheOthers() {
        RuntimeHeap heap = new RuntimeHeap();
        heap.newRow(0, 1);
        heap.newText(1, 0);
        heap.intern(1, 1);
        heap.store(0, 0, 1);
        heap.toGlobal(7, 0);
        Fill.words(heap, 0, 94);
        heap.fromGlobal(0, 7);
        heap.deepCopy(1, 0);
        Check.same("3 words beside 94", heap.youngCollections(), 1);
    }

    static void promise31ByRisingNumbersOfTheOriginals() {
        RuntimeHeap heap = new RuntimeHeap();
        heap.newText(0, 1);
        heap.newRow(1, 2);
        heap.newText(2, 2);
        heap.store(1, 0, 2);
        heap.store(1, 1, 0);
        Check.same("the copy of number 1 is the second one", heap.deepCopy(3, 1), 4);
        Check.same("that of number 2", heap.load(4, 3, 0), 5);
        Check.same("that of number 0", heap.load(4, 3, 1), 3);
    }

    static void promise31CirclesAndSharedObjectsStaySo() {
        RuntimeHeap heap = new RuntimeHeap();
        heap.newRow(0, 3);
        heap.newRow(1, 1);
        heap.store(0, 0, 0);
        heap.store(0, 1, 1);
        heap.store(0, 2, 1);
        heap.store(1, 0, 0);
        Check.same("deepCopy", heap.deepCopy(2, 0), 2);
        Check.same("itself", heap.load(3, 2, 0), 2);
        Check.same("the other one", heap.load(3, 2, 1), 3);
        Check.same("the same once more", heap.load(3, 2, 2), 3);
        Check.same("and back", heap.load(3, 3, 0), 2);
        Check.same("made", heap.made(), 4);
        Check.same("the originals stay as they are", heap.load(3, 1, 0), 0);
    }

    static void promise31WhatIsNotOfTheNetIsTheSame() {
        RuntimeHeap heap = Edge.behind(SORTS);
        for (int place = 0; place < 4; place++) {
            heap.store(ROW, place, WEAK + place);
        }
        Check.same("deepCopy", heap.deepCopy(NOTHING, ROW), 7);
        for (int place = 0; place < 4; place++) {
            Check.same("place " + place, heap.load(0, NOTHING, place), WEAK + place);
        }
        Check.same("made", heap.made(), 8);
    }

    static void promise31NothingStaysNothing() {
        RuntimeHeap heap = Edge.behind(SORTS);
        heap.setNumber(PLAIN, 1, Integer.MIN_VALUE);
        heap.deepCopy(NOTHING, PLAIN);
        Check.same("field 0", heap.load(ROW, NOTHING, 0), -1);
        Check.same("field 1", heap.load(ROW, NOTHING, 1), -1);
        Check.same("number 0", heap.getNumber(NOTHING, 0), 0);
        Check.same("number 1", heap.getNumber(NOTHING, 1), Integer.MIN_VALUE);
    }

    static void promise31TheLeastNet() {
        RuntimeHeap heap = new RuntimeHeap();
        heap.newText(0, 0);
        Check.same("a TEXT of no bytes", heap.deepCopy(0, 0), 1);
        heap.newRow(0, 0);
        Check.same("a ROW of no places", heap.deepCopy(0, 0), 3);
        Check.same("words", heap.wordsOf(0), 2);
    }

    static void promise31NeitherFinalizedNorAged() {
        RuntimeHeap heap = new RuntimeHeap();
        heap.defineKind(-1, 0, 1, true);
        heap.newObject(0, 0);
        heap.clear(0);
        heap.setTenure(1);
        heap.collectYoung();
        heap.takeLast(0);
        Check.yes("the original is FINALIZED", heap.isFinalized(0));
        Check.yes("and OLD", heap.isOld(0));
        Check.same("deepCopy", heap.deepCopy(1, 0), 1);
        Check.no("FINALIZED", heap.isFinalized(1));
        Check.no("OLD", heap.isOld(1));
        Check.same("age", heap.ageOf(1), 0);
        heap.clear(1);
        heap.collectAll(false);
        Check.same("it goes to the LAST ROW in its turn", heap.takeLast(1), 1);
    }

    static void promise31CopiesOfTextsAreNotInterned() {
        Edge.Act scene = heap -> {
            heap.newRow(0, 1);
            heap.newText(1, 1);
            heap.store(0, 0, 1);
        };
        Edge.answers("of a TEXT", false, Edge.both(scene, heap -> heap.deepCopy(2, 1)), heap -> heap.isInterned(2));
        Edge.answers("of one that a ROW holds", false, Edge.both(scene, heap -> {
            heap.deepCopy(2, 0);
            heap.load(2, 2, 0);
        }), heap -> heap.isInterned(2));
        Edge.answers("none", 0, Edge.both(scene, heap -> heap.deepCopy(2, 0)), RuntimeHeap::interned);
        Edge.answers("of one like an INTERNED one", false, Edge.both(scene, heap -> {
            heap.newText(3, 1);
            heap.intern(3, 3);
            heap.deepCopy(2, 1);
        }), heap -> heap.isInterned(2));
    }

    static void promise31AllCopiesOfALargeNetAreOldOfAgeZero() {
        RuntimeHeap heap = new RuntimeHeap();
        heap.setTenure(4);
        Fill.net(heap, 33);
        heap.collectYoung();
        Check.same("age of the original", heap.ageOf(0), 1);
        heap.deepCopy(2, 0);
        Check.yes("OLD", heap.isOld(2));
        Check.same("age", heap.ageOf(2), 0);
    }

    static void promise31CopiesMadeWhileMarkingAreNew() {
        RuntimeHeap heap = new RuntimeHeap();
        Fill.net(heap, 10);
        heap.beginMarking();
        heap.deepCopy(2, 0);
        heap.clear(2);
        Check.same("only the originals are visited", heap.step(50), 2);
        Check.same("the copies are kept", heap.objects(), 4);
    }

    // ---- promise 32

    static void promise32FromIsASlot() {
        Edge.slot("writeImage", Edge.NEW, NetsEdgesTest::putText, RuntimeHeap::writeImage);
    }

    static void promise32FromHoldsNoPlainRowOrText() {
        for (int from : new int[] {WEAK, SOFT, PHANTOM, TABLE, NOTHING}) {
            Edge.badArgument("from " + from, Edge.both(SORTS, heap -> heap.writeImage(TEXT)),
                heap -> heap.writeImage(from));
        }
    }

    static void promise32TheLeastImages() {
        RuntimeHeap heap = new RuntimeHeap();
        heap.newText(0, 0);
        Check.same("a TEXT of no bytes", heap.writeImage(0), 3);
        isImage("a TEXT of no bytes", heap, 1, 2, 0);
        heap.intern(0, 0);
        heap.writeImage(0);
        isImage("an INTERNED TEXT of no bytes", heap, 1, 3, 0);
        heap.newRow(0, 0);
        heap.writeImage(0);
        isImage("a ROW of no places", heap, 1, 1, 0);
        heap.defineKind(-1, 1, 1, false);
        heap.defineKind(-1, 0, 0, false);
        heap.newObject(0, 1);
        heap.writeImage(0);
        isImage("a PLAIN without fields", heap, 1, 0, 1);
    }

    static void promise32ExactlyFourHundredNumbersFitOneMoreDoesNot() {
        // A chain of 133 rows with one place: 1 + 133 * 3 numbers; then a row with two places, or without the last row.
        RuntimeHeap heap = new RuntimeHeap();
        heap.newRow(0, 1);
        for (int i = 1; i < 132; i++) {
            heap.newRow(1, 1);
            heap.store(1, 0, 0);
            heap.assign(0, 1);
        }
        heap.clear(1);
        Check.same("132 rows", heap.writeImage(0), 397);
        heap.newRow(1, 2);
        heap.store(1, 0, 0);
        Check.same("one with 2 places", heap.writeImage(1), -1);
        Check.same("the IMAGE stays as it is", heap.imageLength(), 397);
        Check.same("its first number", heap.imageAt(0), 132);
        heap.newRow(1, 1);
        heap.store(1, 0, 0);
        Check.same("one with 1 place", heap.writeImage(1), 400);
        Check.same("its first number", heap.imageAt(0), 133);
        Check.same("its last number", heap.imageAt(399), 0);
        Check.same("the reference of the last but one", heap.imageAt(396), 133);
    }

    static void promise32TooLongStaysAsItIs() {
        Edge.changesNothing("a net of 401 numbers", -1, heap -> {
            heap.newRow(0, 32);
            for (int place = 0; place < 3; place++) {
                heap.newText(1, 120);
                heap.store(0, place, 1);
            }
            heap.writeImage(1);
        }, heap -> heap.writeImage(0));
    }

    static void promise32FourHundredOfRowAndTexts() {
        RuntimeHeap heap = new RuntimeHeap();
        heap.newRow(0, 31);
        for (int place = 28; place < 31; place++) {
            heap.newText(1, 120);
            heap.setByte(1, 119, place);
            heap.store(0, place, 1);
        }
        Check.same("3 + 31 + 3 * 122", heap.writeImage(0), 400);
        Check.same("the last byte", heap.imageAt(399), 30);
        Check.noIndex(heap, "behind the last one", () -> heap.imageAt(400));
    }

    static void promise32NothingAndWhatIsNotOfTheNetAreZero() {
        RuntimeHeap heap = Edge.behind(SORTS);
        heap.store(ROW, 0, WEAK);
        heap.store(ROW, 1, TABLE);
        heap.store(ROW, 3, ROW);
        Check.same("writeImage", heap.writeImage(ROW), 7);
        isImage("the ROW", heap, 1, 1, 4, 0, 0, 0, 1);
    }

    static void promise32ObjectByObjectInTheOrderOfTheirFields() {
        RuntimeHeap heap = new RuntimeHeap();
        heap.newRow(0, 2);
        heap.newRow(1, 1);
        heap.newRow(2, 1);
        text(heap, 3, 7);
        text(heap, 4, 8);
        heap.store(0, 0, 2);
        heap.store(0, 1, 1);
        heap.store(2, 0, 3);
        heap.store(1, 0, 4);
        heap.writeImage(0);
        isImage("by fields, not by numbers", heap, 5, 1, 2, 2, 3, 1, 1, 4, 1, 1, 5, 2, 1, 7, 2, 1, 8);
    }

    static void promise32EachObjectIsWrittenOnce() {
        RuntimeHeap heap = Edge.behind(SORTS);
        heap.setNumber(PLAIN, 0, -1);
        heap.setNumber(PLAIN, 1, Integer.MAX_VALUE);
        heap.store(PLAIN, 0, ROW);
        heap.store(PLAIN, 1, ROW);
        heap.store(ROW, 3, PLAIN);
        heap.store(ROW, 0, ROW);
        heap.writeImage(PLAIN);
        isImage("a circle", heap, 2, 0, 0, 2, 2, -1, Integer.MAX_VALUE, 1, 4, 2, 0, 0, 1);
    }

    static void promise32AShorterImageTakesTheStead() {
        RuntimeHeap heap = Edge.behind(SORTS);
        heap.writeImage(PLAIN);
        heap.newText(TEXT, 0);
        Check.same("writeImage", heap.writeImage(TEXT), 3);
        Check.noIndex(heap, "nothing is left of the longer one", () -> heap.imageAt(3));
    }

    // ---- promise 33

    static void promise33PlaceIsOneOfTheImage() {
        Edge.Act least = heap -> Fill.image(heap, 1, 2, 0);
        Edge.range(INDEX, "setImage, 3 numbers", 0, 2, least, (heap, place) -> heap.setImage(place, 1));
        Edge.Act most = heap -> Fill.image(heap, Fill.withZeros(399, 1));
        Edge.range(INDEX, "setImage, 400 numbers", 0, 399, most, (heap, place) -> heap.setImage(place, 1));
    }

    static void promise33NoImageHasNoPlace() {
        Edge.noIndex("place 0 of none", Edge.NEW, heap -> heap.setImage(0, 1));
    }

    static void promise33AnyValue() {
        RuntimeHeap heap = Edge.behind(scene -> Fill.image(scene, 1, 2, 0));
        Check.same("what it was", heap.setImage(2, Integer.MIN_VALUE), 0);
        Check.same("the least", heap.imageAt(2), Integer.MIN_VALUE);
        Check.same("what it was", heap.setImage(2, Integer.MAX_VALUE), Integer.MIN_VALUE);
        Check.same("the greatest", heap.imageAt(2), Integer.MAX_VALUE);
        Check.same("the number ahead of it", heap.imageAt(1), 2);
        Check.same("imageLength", heap.imageLength(), 3);
    }

    // ---- promise 34

    static void promise34ToIsASlot() {
        Edge.slot("readImage", heap -> Fill.image(heap, 1, 2, 0), NetsEdgesTest::putText, RuntimeHeap::readImage);
    }

    static void promise34SlotIsLookedAtFirst() {
        Edge.noIndex("slot 8, no IMAGE", Edge.NEW, heap -> heap.readImage(8));
        Edge.noIndex("slot -1, not well formed", heap -> Fill.image(heap, 0, 2, 0), heap -> heap.readImage(-1));
    }

    static void promise34AnEmptyImageIsNotWellFormed() {
        Edge.changesNothing("no IMAGE", -2, SORTS, heap -> heap.readImage(TEXT));
    }

    static void promise34BeginsWithANumberOfOneOrMore() {
        wellFormed("1 object", Edge.NEW, 1, 2, 0);
        malformed("0 objects", Edge.NEW, 0, 2, 0);
        malformed("-1 objects", Edge.NEW, -1, 2, 0);
        malformed("the least", Edge.NEW, Integer.MIN_VALUE, 2, 0);
        malformed("the greatest", Edge.NEW, Integer.MAX_VALUE, 2, 0);
    }

    static void promise34AsManyObjectsAndNothingElse() {
        wellFormed("2 objects", Edge.NEW, 2, 2, 0, 1, 0);
        malformed("one object too few", Edge.NEW, 2, 2, 0);
        malformed("one object too many", Edge.NEW, 1, 2, 0, 1, 0);
        malformed("one number behind", Edge.NEW, 1, 2, 0, 0);
        malformed("half a beginning behind", Edge.NEW, 2, 2, 0, 1);
    }

    static void promise34TheLastOfFourHundredNumbersBeginsAnObject() {
        // A row and two texts take 278 numbers, the third text 121, so that one number is left.
        for (int last = 0; last <= 3; last++) {
            int[] numbers = longImage(4);
            numbers[279] = 119;
            numbers[399] = last;
            malformed("400 numbers, the last one " + last, heap -> heap.defineKind(-1, 0, 0, false), numbers);
        }
    }

    static void promise34AnObjectGoesBeyondFourHundredNumbers() {
        for (int form = 1; form <= 3; form++) {
            for (int length : new int[] {1, 2, 40}) {
                int[] numbers = longImage(4);
                numbers[279] = 118;
                numbers[398] = form;
                numbers[399] = length;
                malformed("form " + form + " of length " + length, Edge.NEW, numbers);
            }
        }
        int[] numbers = longImage(4);
        numbers[279] = 118;
        numbers[398] = 2;
        wellFormed("form 2 of length 0", Edge.NEW, numbers);
        malformed("a kind with fields", heap -> heap.defineKind(-1, 0, 1, false), withKindAtTheEnd(numbers));
        wellFormed("a kind without", heap -> heap.defineKind(-1, 0, 0, false), withKindAtTheEnd(numbers));
    }

    private static int[] withKindAtTheEnd(int[] numbers) {
        int[] others = numbers.clone();
        others[398] = 0;
        return others;
    }

    static void promise34OneThatIsNotWellFormedAsksForNoRoom() {
        Edge.changesNothing("a kind that is not there", -2, heap -> {
            Fill.words(heap, 320, 96);
            heap.fromGlobal(0, 0);
            heap.writeImage(0);
            heap.setImage(1, 0);
            heap.beginMarking();
        }, heap -> heap.readImage(3));
    }

    static void promise34ALongImageHasOneNumberTooManyOrTooFew() {
        wellFormed("3 texts in 400 numbers", Edge.NEW, longImage(3));
        malformed("one text fewer", Edge.NEW, longImage(2));
        malformed("one text more", Edge.NEW, longImage(4));
    }

    /** 400 numbers with 3 texts of 120 bytes and a row of 31 places, which says how many objects there are. */
    private static int[] longImage(int texts) {
        int[] numbers = Fill.withZeros(397, texts + 1, 1, 31);
        for (int text = 0; text < 3; text++) {
            numbers[34 + 122 * text] = 2;
            numbers[35 + 122 * text] = 120;
        }
        return numbers;
    }

    static void promise34EachObjectBeginsWithZeroToThree() {
        Edge.Act kind = heap -> heap.defineKind(-1, 0, 0, false);
        for (int form = 0; form <= 3; form++) {
            wellFormed("form " + form, kind, 1, form, 0);
        }
        for (int form : new int[] {Integer.MIN_VALUE, -1, 4, 5, 6, Integer.MAX_VALUE}) {
            malformed("form " + form, kind, 1, form, 0);
            malformed("form " + form + " of the last one", kind, 2, 2, 0, form, 0);
        }
    }

    static void promise34KindsAreThere() {
        Edge.Act kinds = heap -> {
            heap.defineKind(-1, 0, 0, false);
            heap.defineKind(-1, 0, 0, false);
        };
        wellFormed("the first kind", kinds, 1, 0, 0);
        wellFormed("the last kind", kinds, 1, 0, 1);
        for (int kind : new int[] {Integer.MIN_VALUE, -1, 2, 12, Integer.MAX_VALUE}) {
            malformed("kind " + kind, kinds, 1, 0, kind);
        }
        malformed("kind 0 of none", Edge.NEW, 1, 0, 0);
    }

    static void promise34EachKindHasItsOwnFields() {
        Edge.Act kinds = heap -> {
            heap.defineKind(-1, 0, 1, false);
            heap.defineKind(0, 2, 0, false);
        };
        RuntimeHeap heap = Edge.behind(Edge.both(kinds, made -> Fill.image(made, 2, 0, 1, 2, 1, 5, 0, 0, 6)));
        heap.readImage(0);
        Check.same("kind", heap.kindOf(0), 1);
        Check.same("words", heap.wordsOf(0), 5);
        Check.same("number", heap.getNumber(0, 0), 5);
        Check.same("field 1", heap.load(2, 0, 1), heap.numberOf(0));
        heap.load(1, 0, 0);
        Check.same("kind", heap.kindOf(1), 0);
        Check.same("number", heap.getNumber(1, 0), 6);
        malformed("the fields of the other kind", kinds, 1, 0, 1, 5);
        malformed("the fields of the other kind", kinds, 1, 0, 0, 0, 0, 5);
    }

    static void promise34LengthOfARowIsZeroToForty() {
        wellFormed("no places", Edge.NEW, 1, 1, 0);
        wellFormed("40 places", Edge.NEW, Fill.withZeros(40, 1, 1, 40));
        malformed("41 places", Edge.NEW, Fill.withZeros(41, 1, 1, 41));
        malformed("-1 places", Edge.NEW, 1, 1, -1);
        malformed("the least", Edge.NEW, 1, 1, Integer.MIN_VALUE);
        malformed("the greatest", Edge.NEW, 1, 1, Integer.MAX_VALUE);
    }

    static void promise34LengthOfATextIsZeroToOneHundredAndTwenty() {
        for (int form = 2; form <= 3; form++) {
            wellFormed("no bytes", Edge.NEW, 1, form, 0);
            wellFormed("120 bytes", Edge.NEW, Fill.withZeros(120, 1, form, 120));
            malformed("121 bytes", Edge.NEW, Fill.withZeros(121, 1, form, 121));
            malformed("-1 bytes", Edge.NEW, 1, form, -1);
            malformed("the least", Edge.NEW, 1, form, Integer.MIN_VALUE);
            malformed("the greatest", Edge.NEW, 1, form, Integer.MAX_VALUE);
        }
    }

    static void promise34ANegativeLengthLeadsToNoOtherObject() {
        for (int form = 1; form <= 3; form++) {
            for (int length : new int[] {-1, -2, -3, -4, -10, -400, -401, Integer.MIN_VALUE, Integer.MIN_VALUE + 2}) {
                malformed("the first of two", Edge.NEW, 2, form, length, form, 0);
                malformed("the second of two", Edge.NEW, 2, form, 0, form, length);
                malformed("the second of three", Edge.NEW, 3, form, 0, form, length, form, 0);
                malformed("the last of many", Edge.NEW, 4, 1, 0, 1, 0, 2, 0, form, length);
            }
        }
    }

    static void promise34AnObjectIsThereToItsLastNumber() {
        wellFormed("2 places", Edge.NEW, 1, 1, 2, 0, 0);
        malformed("the last place is missing", Edge.NEW, 1, 1, 2, 0);
        malformed("a place too many", Edge.NEW, 1, 1, 2, 0, 0, 0);
        malformed("the last byte is missing", Edge.NEW, 1, 2, 2, 0);
        malformed("all bytes are missing", Edge.NEW, 1, 3, 1);
        Edge.Act kind = heap -> heap.defineKind(-1, 1, 2, false);
        wellFormed("1 reference and 2 numbers", kind, 1, 0, 0, 0, 5, 6);
        malformed("the last number is missing", kind, 1, 0, 0, 0, 5);
        malformed("a number too many", kind, 1, 0, 0, 0, 5, 6, 7);
    }

    static void promise34ReferencesAreZeroToTheNumberOfObjects() {
        for (int reference = 0; reference <= 2; reference++) {
            wellFormed("reference " + reference + " of a ROW", Edge.NEW, 2, 1, 1, reference, 2, 0);
        }
        Edge.Act kind = heap -> heap.defineKind(-1, 1, 1, false);
        for (int reference = 0; reference <= 2; reference++) {
            wellFormed("reference " + reference + " of a PLAIN", kind, 2, 0, 0, reference, 9, 2, 0);
        }
        for (int reference : new int[] {Integer.MIN_VALUE, -1, 3, Integer.MAX_VALUE}) {
            malformed("reference " + reference + " of a ROW", Edge.NEW, 2, 1, 1, reference, 2, 0);
            malformed("reference " + reference + " of the last ROW", Edge.NEW, 2, 2, 0, 1, 1, reference);
            malformed("reference " + reference + " of a PLAIN", kind, 2, 0, 0, reference, 9, 2, 0);
        }
    }

    static void promise34BytesAreZeroToTwoHundredAndFiftyFive() {
        for (int form = 2; form <= 3; form++) {
            wellFormed("byte 0", Edge.NEW, 1, form, 1, 0);
            wellFormed("byte 255", Edge.NEW, 1, form, 1, 255);
            for (int value : new int[] {Integer.MIN_VALUE, -1, 256, Integer.MAX_VALUE}) {
                malformed("byte " + value, Edge.NEW, 1, form, 1, value);
                malformed("last byte " + value, Edge.NEW, 1, form, 2, 0, value);
            }
        }
    }

    static void promise34NumberFieldsAreAnyNumber() {
        Edge.Act kind = heap -> heap.defineKind(-1, 0, 2, false);
        wellFormed("the least and the greatest", kind, 1, 0, 0, Integer.MIN_VALUE, Integer.MAX_VALUE);
        RuntimeHeap heap = Edge.behind(kind);
        Fill.image(heap, 1, 0, 0, Integer.MIN_VALUE, Integer.MAX_VALUE);
        heap.readImage(0);
        Check.same("the least", heap.getNumber(0, 0), Integer.MIN_VALUE);
        Check.same("the greatest", heap.getNumber(0, 1), Integer.MAX_VALUE);
    }

    static void promise34ObjectsNeedNotBeOfTheNetOfTheFirstOne() {
        RuntimeHeap heap = Edge.behind(scene -> Fill.image(scene, 2, 2, 0, 1, 0));
        heap.readImage(0);
        Check.same("both are made", heap.objects(), 2);
        Check.same("the second one is not reached", heap.collectAll(false), 1);
    }

    static void promise34ThirtyTwoWordsAreYoungMoreAreOld() {
        for (int words = 32; words <= 34; words += 2) {
            RuntimeHeap heap = Edge.behind(Edge.NEW);
            Fill.image(heap, Fill.emptyTexts(words / 2));
            heap.readImage(0);
            Check.same("objects", heap.objects(), words / 2);
            Check.same("YOUNG ones of " + words + " words", heap.youngObjects(), words == 32 ? 16 : 0);
            Check.same("age", heap.ageOf(0), 0);
        }
        RuntimeHeap heap = Edge.behind(scene -> Fill.image(scene, Fill.withZeros(31, 1, 1, 31)));
        heap.readImage(0);
        Check.yes("33 words", heap.isOld(0));
    }

    static void promise34AsManyWordsAsThereCanBe() {
        RuntimeHeap heap = Edge.behind(scene -> Fill.image(scene, Fill.emptyTexts(160)));
        int made = heap.made();
        Check.same("320 words", heap.readImage(0), made);
        Check.same("old words", heap.oldWords(), 320);
        Check.same("the next number", heap.made(), made + 160);
        RuntimeHeap more = Edge.behind(scene -> Fill.image(scene, Fill.emptyTexts(161)));
        more.newRow(0, 0);
        made = more.made();
        Check.same("322 words", more.readImage(0), -1);
        Check.same("made", more.made(), made);
        Check.same("to", more.numberOf(0), made - 1);
    }

    static void promise34AsManyObjectsAsCanBeWritten() {
        RuntimeHeap heap = Edge.behind(scene -> Fill.image(scene, Fill.emptyTexts(199)));
        Check.same("398 words in 399 numbers", heap.readImage(0), -1);
        heap.setImage(0, 200);
        Check.same("one too many", heap.readImage(0), -2);
    }

    static void promise34NoRoomLeavesTheSlotAsItIs() {
        RuntimeHeap heap = new RuntimeHeap();
        heap.newText(0, 0);
        heap.writeImage(0);
        heap.clear(0);
        heap.collectAll(false);
        heap.newText(0, 0);
        while (heap.made() < 500 && heap.newRow(1, 0) >= 0) {
            heap.newRow(2, 1);
            heap.store(2, 0, 0);
            heap.assign(0, 2);
        }
        int held = heap.numberOf(1);
        int made = heap.made();
        Check.same("readImage", heap.readImage(1), -1);
        Check.same("to", heap.numberOf(1), held);
        Check.same("made", heap.made(), made);
    }

    static void promise34TheImageJustFits() {
        for (int more = 0; more <= 1; more++) {
            RuntimeHeap heap = new RuntimeHeap();
            heap.newText(0, 120);
            heap.writeImage(0);
            heap.toGlobal(7, 0);
            Fill.words(heap, 0, 64 + more);
            Check.yes("32 words", heap.readImage(0) >= 0);
            int collections = heap.youngCollections() + heap.fullCollections();
            Check.same("collections with room for " + (32 - more), collections > 0 ? 1 : 0, more);
        }
    }

    static void promise34WordsOfInternedTextsAreAskedForAlsoIfOneIsThere() {
        for (int more = 0; more <= 1; more++) {
            RuntimeHeap heap = new RuntimeHeap();
            heap.newText(0, 4);
            heap.intern(0, 0);
            heap.writeImage(0);
            heap.toGlobal(7, 0);
            Fill.words(heap, 0, 93 + more);
            int made = heap.made();
            Check.same("the one that is there", heap.readImage(0), 0);
            Check.same("made", heap.made(), made);
            int collections = heap.youngCollections() + heap.fullCollections();
            Check.same("collections with room for " + (3 - more), collections > 0 ? 1 : 0, more);
        }
    }

    static void promise34WordsOfInternedTextsCountForOldToo() {
        // 30 words of a row and 4 of an INTERNED TEXT that is there: as for one object of 34 words.
        RuntimeHeap heap = new RuntimeHeap();
        heap.newRow(0, 28);
        heap.newText(1, 8);
        heap.intern(1, 1);
        heap.store(0, 0, 1);
        heap.writeImage(0);
        Check.same("readImage", heap.readImage(2), 2);
        Check.yes("OLD", heap.isOld(2));
        Check.same("old words", heap.oldWords(), 30);
        Check.same("it holds the one that is there", heap.load(3, 2, 0), 1);
    }

    static void promise34AnInternedTextThatIsThereUsesUpNoNumber() {
        RuntimeHeap heap = Edge.behind(scene -> Fill.image(scene, 2, 1, 1, 2, 3, 1, 7));
        text(heap, 1, 7);
        heap.intern(1, 1);
        int number = heap.numberOf(1);
        Check.same("readImage", heap.readImage(0), number + 1);
        Check.same("what it holds", heap.load(2, 0, 0), number);
        Check.same("made", heap.made(), number + 2);
    }

    static void promise34ATextThatIsNotInternedIsNotTaken() {
        RuntimeHeap heap = Edge.behind(scene -> Fill.image(scene, 1, 3, 1, 7));
        text(heap, 1, 7);
        int made = heap.made();
        Check.same("one is made", heap.readImage(0), made);
        Check.yes("which is INTERNED", heap.isInterned(0));
        Check.no("the other one", heap.isInterned(1));
    }

    static void promise34AnInternedTextIsNotTakenForOneThatIsNot() {
        RuntimeHeap heap = Edge.behind(scene -> Fill.image(scene, 1, 2, 1, 7));
        text(heap, 1, 7);
        heap.intern(1, 1);
        int made = heap.made();
        Check.same("one is made", heap.readImage(0), made);
        Check.no("which is not INTERNED", heap.isInterned(0));
    }

    static void promise34AnInternedTextThatIsThereTwiceIsMadeOnce() {
        RuntimeHeap heap = Edge.behind(scene -> Fill.image(scene, 3, 1, 2, 2, 3, 3, 1, 7, 3, 1, 7));
        int made = heap.made();
        Check.same("readImage", heap.readImage(0), made);
        Check.same("made", heap.made(), made + 2);
        Check.same("the first one", heap.load(1, 0, 0), made + 1);
        Check.same("the second one", heap.load(1, 0, 1), made + 1);
        Check.same("interned", heap.interned(), 1);
    }

    static void promise34TheFirstOneMayBeAnInternedTextThatIsThere() {
        RuntimeHeap heap = Edge.behind(scene -> Fill.image(scene, 1, 3, 0));
        text(heap, 1);
        heap.intern(1, 1);
        int number = heap.numberOf(1);
        Check.same("readImage", heap.readImage(0), number);
        Check.same("to", heap.numberOf(0), number);
        Check.same("made", heap.made(), number + 1);
    }

    static void promise34NoRoomAlsoIfOnlyAnInternedTextThatIsThereIsWritten() {
        RuntimeHeap heap = new RuntimeHeap();
        heap.newText(0, 0);
        heap.intern(0, 0);
        heap.writeImage(0);
        heap.toGlobal(7, 0);
        Fill.words(heap, 320, 96);
        Check.same("readImage", heap.readImage(0), -1);
        Check.same("to", heap.numberOf(0), -1);
        Check.yes("it is still there", heap.isPresent(0));
    }

    static void promise34AnInternedTextThatTheSearchForRoomRemovesIsMadeAnew() {
        RuntimeHeap heap = new RuntimeHeap();
        heap.newText(0, 4);
        heap.intern(0, 0);
        heap.writeImage(0);
        heap.clear(0);
        Fill.words(heap, 0, 94);
        int made = heap.made();
        Check.same("readImage", heap.readImage(0), made);
        Check.yes("INTERNED", heap.isInterned(0));
        Check.same("interned", heap.interned(), 1);
        Check.no("the former one", heap.isPresent(0));
    }

    static void promise34MadeInTheirOrder() {
        RuntimeHeap heap = Edge.behind(scene -> Fill.image(scene, 4, 1, 3, 4, 3, 2, 2, 0, 1, 0, 2, 1, 9));
        int made = heap.made();
        Check.same("the first", heap.readImage(0), made);
        Check.same("the fourth, in place 0", heap.load(1, 0, 0), made + 3);
        Check.same("the third, in place 1", heap.load(2, 0, 1), made + 2);
        Check.same("the second, in place 2", heap.load(3, 0, 2), made + 1);
        Check.same("the byte of the fourth", heap.getByte(1, 0), 9);
        Check.same("the form of the third", heap.formOf(2), 1);
        Check.same("the bytes of the second", heap.lengthOf(3), 0);
    }

    static void promise34TheSameImageTwiceMakesTwoNets() {
        RuntimeHeap heap = Edge.behind(scene -> Fill.image(scene, 2, 1, 1, 2, 1, 1, 1));
        int made = heap.made();
        Check.same("once", heap.readImage(0), made);
        Check.same("twice", heap.readImage(1), made + 2);
        Check.same("imageLength", heap.imageLength(), 7);
        Check.yes("they are alike", heap.sameShape(0, 1));
        Check.yes("circles", heap.onCircle(1));
    }

    static void promise34WhatWasWrittenIsReadAgain() {
        RuntimeHeap heap = Edge.behind(SORTS);
        heap.store(PLAIN, 1, ROW);
        heap.store(ROW, 0, PLAIN);
        heap.store(ROW, 3, TEXT);
        heap.setByte(TEXT, 4, 255);
        heap.setNumber(PLAIN, 1, -1);
        heap.writeImage(PLAIN);
        Check.same("readImage", heap.readImage(NOTHING), 7);
        Check.yes("they are alike", heap.sameShape(PLAIN, NOTHING));
    }
}
