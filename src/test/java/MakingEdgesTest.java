/** Boundary cases of the promises 9 to 15, and of ROOM: making objects. */
final class MakingEdgesTest {
    private static final Class<IllegalArgumentException> ARGUMENT = IllegalArgumentException.class;

    /** Makes an object into a slot, and answers its number. */
    interface Maker {
        int make(RuntimeHeap heap, int to);
    }

    public static void main(String[] args) {
        Check.runAll(MakingEdgesTest.class);
    }

    private static void kinds(RuntimeHeap heap) {
        heap.defineKind(-1, 0, 0, false);
        heap.defineKind(-1, 4, 4, false);
        heap.defineKind(1, 4, 4, false);
    }

    private static void putRow(RuntimeHeap heap, int slot) {
        heap.newRow(slot, 0);
    }

    /** The object is made into the slot, has these words, is YOUNG or OLD by them, and uses up one number. */
    private static void isMade(String what, int words, Edge.Act scene, Maker maker) {
        RuntimeHeap heap = Edge.behind(scene);
        int made = heap.made();
        Check.same(what + ": its number", maker.make(heap, 6), made);
        Check.same(what + ": what the slot holds", heap.numberOf(6), made);
        Check.same(what + ": made", heap.made(), made + 1);
        Check.same(what + ": words", heap.wordsOf(6), words);
        Check.same(what + ": OLD", heap.isOld(6) ? 1 : 0, words > 32 ? 1 : 0);
        Check.same(what + ": age", heap.ageOf(6), 0);
        Check.no(what + ": FINALIZED", heap.isFinalized(6));
    }

    /** It is made without a collection if its words just fit, and needs one if they are one more. */
    private static void asksForItsWords(String what, int words, Edge.Act scene, Maker maker) {
        boolean isOld = words > 32;
        for (int more = 0; more <= 1; more++) {
            int left = words - more;
            RuntimeHeap heap = Edge.behind(scene);
            Fill.words(heap, isOld ? 320 - left : 0, isOld ? 0 : 96 - left);
            heap.fromGlobal(1, 0);
            if (isOld) {
                heap.newRow(1, 0);
            }
            int made = maker.make(heap, 0);
            Check.yes(what + ": made, if there is room", more == 1 || made >= 0);
            int collections = heap.youngCollections() + heap.fullCollections();
            Check.same(what + ": needs a collection with room for " + left, collections > 0 ? 1 : 0, more);
        }
    }

    /** With all room held nothing is made, and the slot stays as it is. */
    private static void findsNoRoom(String what, Edge.Act scene, Maker maker) {
        RuntimeHeap heap = Edge.behind(scene);
        Fill.words(heap, 320, 96);
        heap.fromGlobal(0, 1);
        heap.fromGlobal(1, 1);
        int made = heap.made();
        int held = heap.numberOf(0);
        Check.same(what + ": no room", maker.make(heap, 0), -1);
        Check.same(what + ": the slot", heap.numberOf(0), held);
        Check.same(what + ": made", heap.made(), made);
        Check.same(what + ": objects", heap.objects(), made);
        Check.same(what + ": full collections", heap.fullCollections(), 3);
        heap.toGlobal(0, 7);
        heap.toGlobal(1, 7);
        heap.clear(0);
        heap.clear(1);
        putRow(heap, 2);
        Check.same(what + ": no number was used up", heap.numberOf(2), made);
    }

    // ---- promise 9

    static void promise9ToIsASlot() {
        Edge.slot("newObject", MakingEdgesTest::kinds, MakingEdgesTest::putRow, (heap, to) -> heap.newObject(to, 2));
    }

    static void promise9KindIsOneThatIsThere() {
        Edge.range(ARGUMENT, "kind", 0, 2, MakingEdgesTest::kinds, (heap, kind) -> heap.newObject(0, kind));
        Edge.badArgument("kind 0 of none", Edge.NEW, heap -> heap.newObject(0, 0));
        Edge.range(ARGUMENT, "kind of 12", 0, 11, heap -> {
            for (int i = 0; i < 12; i++) {
                heap.defineKind(-1, 0, 0, false);
            }
        }, (heap, kind) -> heap.newObject(0, kind));
    }

    static void promise9SlotIsLookedAtAheadOfTheKind() {
        Edge.noIndex("slot 8, kind 0 of none", Edge.NEW, heap -> heap.newObject(8, 0));
        Edge.noIndex("slot -1, kind -1", Edge.NEW, heap -> heap.newObject(-1, -1));
    }

    static void promise9FewestAndMostFields() {
        isMade("no fields", 2, MakingEdgesTest::kinds, (heap, to) -> heap.newObject(to, 0));
        isMade("4 and 4 fields", 10, MakingEdgesTest::kinds, (heap, to) -> heap.newObject(to, 1));
        isMade("8 and 8 fields", 18, MakingEdgesTest::kinds, (heap, to) -> heap.newObject(to, 2));
    }

    static void promise9FieldsAreEmptyAlsoWhereOthersWere() {
        RuntimeHeap heap = Edge.behind(MakingEdgesTest::kinds);
        for (int slot = 0; slot < 5; slot++) {
            heap.newText(slot, 68);
            for (int place = 0; place < 68; place++) {
                heap.setByte(slot, place, 255);
            }
            heap.clear(slot);
        }
        heap.collectAll(false);
        heap.newObject(0, 2);
        for (int field = 0; field < 8; field++) {
            Check.same("reference field " + field, heap.load(1, 0, field), -1);
            Check.same("number field " + field, heap.getNumber(0, field), 0);
        }
    }

    static void promise9FreshAlsoWhereAnOlderFinalizedOneWas() {
        RuntimeHeap heap = new RuntimeHeap();
        heap.defineKind(-1, 0, 0, true);
        heap.newObject(0, 0);
        heap.clear(0);
        heap.collectYoung();
        heap.takeLast(0);
        heap.clear(0);
        heap.collectAll(false);
        Check.same("it is gone", heap.objects(), 0);
        heap.newObject(0, 0);
        Check.same("age", heap.ageOf(0), 0);
        Check.no("FINALIZED", heap.isFinalized(0));
        heap.clear(0);
        heap.collectAll(false);
        Check.same("it goes to the LAST ROW in its turn", heap.lasts(), 1);
    }

    static void promise9AsksForItsWords() {
        asksForItsWords("no fields", 2, MakingEdgesTest::kinds, (heap, to) -> heap.newObject(to, 0));
        asksForItsWords("8 and 8 fields", 18, MakingEdgesTest::kinds, (heap, to) -> heap.newObject(to, 2));
    }

    static void promise9NoRoom() {
        findsNoRoom("newObject", MakingEdgesTest::kinds, (heap, to) -> heap.newObject(to, 0));
    }

    static void promise9TheSlotLosesWhatItHeld() {
        RuntimeHeap heap = Edge.behind(MakingEdgesTest::kinds);
        heap.newObject(0, 0);
        heap.newObject(0, 0);
        Check.same("one is unreached", heap.wouldRemove(false), 1);
        Check.same("the slot holds the later one", heap.numberOf(0), 1);
    }

    // ---- promise 10

    static void promise10ToIsASlot() {
        Edge.slot("newRow", Edge.NEW, MakingEdgesTest::putRow, (heap, to) -> heap.newRow(to, 3));
    }

    static void promise10LengthIsZeroToForty() {
        Edge.range(ARGUMENT, "length", 0, 40, Edge.NEW, (heap, length) -> heap.newRow(0, length));
    }

    static void promise10SlotIsLookedAtAheadOfTheLength() {
        Edge.noIndex("slot 8, length 41", Edge.NEW, heap -> heap.newRow(8, 41));
        Edge.noIndex("slot -1, length -1", Edge.NEW, heap -> heap.newRow(-1, -1));
    }

    static void promise10FewestAndMostPlaces() {
        isMade("no places", 2, Edge.NEW, (heap, to) -> heap.newRow(to, 0));
        isMade("40 places", 42, Edge.NEW, (heap, to) -> heap.newRow(to, 40));
    }

    static void promise10ThirtyTwoWordsAreYoungMoreAreOld() {
        isMade("30 places, the last YOUNG row", 32, Edge.NEW, (heap, to) -> heap.newRow(to, 30));
        isMade("31 places, the first OLD row", 33, Edge.NEW, (heap, to) -> heap.newRow(to, 31));
    }

    static void promise10AllPlacesHoldNothing() {
        RuntimeHeap heap = new RuntimeHeap();
        heap.newRow(0, 40);
        for (int place = 0; place < 40; place++) {
            Check.same("place " + place, heap.load(1, 0, place), -1);
        }
    }

    static void promise10AsksForItsWords() {
        asksForItsWords("no places", 2, Edge.NEW, (heap, to) -> heap.newRow(to, 0));
        asksForItsWords("30 places", 32, Edge.NEW, (heap, to) -> heap.newRow(to, 30));
        asksForItsWords("31 places", 33, Edge.NEW, (heap, to) -> heap.newRow(to, 31));
        asksForItsWords("40 places", 42, Edge.NEW, (heap, to) -> heap.newRow(to, 40));
    }

    static void promise10NoRoom() {
        findsNoRoom("a YOUNG row", Edge.NEW, (heap, to) -> heap.newRow(to, 0));
        findsNoRoom("an OLD row", Edge.NEW, (heap, to) -> heap.newRow(to, 31));
    }

    // ---- promise 11

    static void promise11ToIsASlot() {
        Edge.slot("newText", Edge.NEW, MakingEdgesTest::putRow, (heap, to) -> heap.newText(to, 3));
    }

    static void promise11LengthIsZeroToOneHundredAndTwenty() {
        Edge.range(ARGUMENT, "length", 0, 120, Edge.NEW, (heap, length) -> heap.newText(0, length));
    }

    static void promise11SlotIsLookedAtAheadOfTheLength() {
        Edge.noIndex("slot 8, length 121", Edge.NEW, heap -> heap.newText(8, 121));
        Edge.noIndex("slot -1, length -1", Edge.NEW, heap -> heap.newText(-1, -1));
    }

    static void promise11FourBytesAreAWordAndARestIsOneMore() {
        int[] bytes = {0, 1, 3, 4, 5, 8, 9, 116, 117, 119, 120};
        int[] words = {2, 3, 3, 3, 4, 4, 5, 31, 32, 32, 32};
        for (int i = 0; i < bytes.length; i++) {
            int length = bytes[i];
            isMade(length + " bytes", words[i], Edge.NEW, (heap, to) -> heap.newText(to, length));
        }
    }

    static void promise11TheLongestTextIsStillYoung() {
        Edge.answers("isOld", false, heap -> heap.newText(0, 120), heap -> heap.isOld(0));
    }

    static void promise11AllBytesAreZeroAlsoWhereOthersWere() {
        RuntimeHeap heap = new RuntimeHeap();
        heap.newText(0, 120);
        for (int place = 0; place < 120; place++) {
            heap.setByte(0, place, 255);
        }
        heap.clear(0);
        heap.collectAll(false);
        heap.newText(0, 120);
        for (int place = 0; place < 120; place++) {
            Check.same("byte " + place, heap.getByte(0, place), 0);
        }
    }

    static void promise11NotInternedAlsoIfOneLikeItIs() {
        RuntimeHeap heap = new RuntimeHeap();
        heap.newText(0, 0);
        heap.intern(0, 0);
        heap.newText(1, 0);
        Check.no("isInterned", heap.isInterned(1));
        Check.same("interned", heap.interned(), 1);
    }

    static void promise11AsksForItsWords() {
        asksForItsWords("no bytes", 2, Edge.NEW, (heap, to) -> heap.newText(to, 0));
        asksForItsWords("1 byte", 3, Edge.NEW, (heap, to) -> heap.newText(to, 1));
        asksForItsWords("4 bytes", 3, Edge.NEW, (heap, to) -> heap.newText(to, 4));
        asksForItsWords("5 bytes", 4, Edge.NEW, (heap, to) -> heap.newText(to, 5));
        asksForItsWords("120 bytes", 32, Edge.NEW, (heap, to) -> heap.newText(to, 120));
    }

    static void promise11NoRoom() {
        findsNoRoom("newText", Edge.NEW, (heap, to) -> heap.newText(to, 0));
    }

    // ---- promises 12 to 14

    static void promise12ToIsASlot() {
        Edge.slot("newWeak: to", Edge.NEW, (heap, to) -> putRow(heap, 1), (heap, to) -> heap.newWeak(to, 1, true));
    }

    static void promise12OfIsASlot() {
        Edge.slot("newWeak: of", Edge.NEW, MakingEdgesTest::putRow, (heap, of) -> heap.newWeak(1, of, true));
    }

    static void promise12OfHoldsNothing() {
        Edge.badArgument("nothing", heap -> putRow(heap, 0), heap -> heap.newWeak(0, 1, false));
        Edge.badArgument("nothing, to itself", Edge.NEW, heap -> heap.newWeak(0, 0, true));
    }

    static void promise12SlotsAreLookedAtFirst() {
        Edge.noIndex("to 8, of holds nothing", Edge.NEW, heap -> heap.newWeak(8, 0, false));
        Edge.noIndex("to -1, of 8", Edge.NEW, heap -> heap.newWeak(-1, 8, false));
        Edge.noIndex("of 8", Edge.NEW, heap -> heap.newWeak(0, 8, false));
    }

    static void promise12ThreeWords() {
        Edge.Act scene = heap -> putRow(heap, 1);
        isMade("newWeak", 3, scene, (heap, to) -> heap.newWeak(to, 1, true));
        asksForItsWords("newWeak", 3, Edge.NEW, (heap, to) -> heap.newWeak(to, 1, false));
    }

    static void promise12NoRoom() {
        findsNoRoom("newWeak", Edge.NEW, (heap, to) -> heap.newWeak(to, 1, true));
    }

    static void promise12IntoTheSlotOfItsReferent() {
        RuntimeHeap heap = new RuntimeHeap();
        putRow(heap, 0);
        Check.same("newWeak", heap.newWeak(0, 0, true), 1);
        Check.no("it has its referent", heap.isCleared(0));
        Check.same("which nothing else holds", heap.collectAll(false), 1);
        Check.yes("then it is cleared", heap.isCleared(0));
    }

    static void promise12OfAReference() {
        RuntimeHeap heap = new RuntimeHeap();
        putRow(heap, 0);
        heap.newWeak(1, 0, false);
        heap.newWeak(2, 1, false);
        Check.same("a WEAK of a WEAK", heap.read(3, 2), 1);
    }

    static void promise12QueuedOrNot() {
        for (int isQueued = 0; isQueued <= 1; isQueued++) {
            RuntimeHeap heap = new RuntimeHeap();
            putRow(heap, 0);
            heap.newWeak(1, 0, isQueued == 1);
            heap.clear(0);
            heap.collectAll(false);
            Check.yes("cleared", heap.isCleared(1));
            Check.same("in the QUEUE", heap.queued(), isQueued);
        }
    }

    /** One object in each of the slots 0 to 2. */
    private static void threeRows(RuntimeHeap heap) {
        for (int slot = 0; slot < 3; slot++) {
            putRow(heap, slot);
        }
    }

    static void promise12TheReferentIsWhatThatSlotHolds() {
        for (int of = 0; of < 3; of++) {
            RuntimeHeap heap = Edge.behind(MakingEdgesTest::threeRows);
            heap.newWeak(7, of, true);
            for (int slot = 0; slot < 3; slot++) {
                Check.same("slot " + slot, heap.refersTo(7, slot) ? 1 : 0, slot == of ? 1 : 0);
            }
        }
    }

    static void promise13TheReferentIsWhatThatSlotHolds() {
        for (int of = 0; of < 3; of++) {
            RuntimeHeap heap = Edge.behind(MakingEdgesTest::threeRows);
            heap.newSoft(7, of, true);
            for (int slot = 0; slot < 3; slot++) {
                Check.same("slot " + slot, heap.refersTo(7, slot) ? 1 : 0, slot == of ? 1 : 0);
            }
        }
    }

    static void promise14TheReferentIsWhatThatSlotHolds() {
        for (int of = 0; of < 3; of++) {
            RuntimeHeap heap = Edge.behind(MakingEdgesTest::threeRows);
            heap.newPhantom(7, of);
            for (int slot = 0; slot < 3; slot++) {
                Check.same("slot " + slot, heap.refersTo(7, slot) ? 1 : 0, slot == of ? 1 : 0);
            }
        }
    }

    static void promise13ToIsASlot() {
        Edge.slot("newSoft: to", Edge.NEW, (heap, to) -> putRow(heap, 1), (heap, to) -> heap.newSoft(to, 1, true));
    }

    static void promise13OfIsASlot() {
        Edge.slot("newSoft: of", Edge.NEW, MakingEdgesTest::putRow, (heap, of) -> heap.newSoft(1, of, true));
    }

    static void promise13OfHoldsNothing() {
        Edge.badArgument("nothing", heap -> putRow(heap, 0), heap -> heap.newSoft(0, 1, false));
        Edge.badArgument("nothing, to itself", Edge.NEW, heap -> heap.newSoft(0, 0, true));
    }

    static void promise13SlotsAreLookedAtFirst() {
        Edge.noIndex("to 8, of holds nothing", Edge.NEW, heap -> heap.newSoft(8, 0, false));
        Edge.noIndex("to -1, of 8", Edge.NEW, heap -> heap.newSoft(-1, 8, false));
        Edge.noIndex("of 8", Edge.NEW, heap -> heap.newSoft(0, 8, false));
    }

    static void promise13ThreeWords() {
        Edge.Act scene = heap -> putRow(heap, 1);
        isMade("newSoft", 3, scene, (heap, to) -> heap.newSoft(to, 1, true));
        asksForItsWords("newSoft", 3, Edge.NEW, (heap, to) -> heap.newSoft(to, 1, false));
    }

    static void promise13NoRoom() {
        findsNoRoom("newSoft", Edge.NEW, (heap, to) -> heap.newSoft(to, 1, true));
    }

    static void promise13IntoTheSlotOfItsReferent() {
        RuntimeHeap heap = new RuntimeHeap();
        putRow(heap, 0);
        Check.same("newSoft", heap.newSoft(0, 0, true), 1);
        Check.same("it holds its referent", heap.collectAll(false), 0);
        Check.same("but not PRESSED", heap.collectAll(true), 1);
        Check.yes("then it is cleared", heap.isCleared(0));
    }

    static void promise13QueuedOrNot() {
        for (int isQueued = 0; isQueued <= 1; isQueued++) {
            RuntimeHeap heap = new RuntimeHeap();
            putRow(heap, 0);
            heap.newSoft(1, 0, isQueued == 1);
            heap.clear(0);
            heap.collectAll(true);
            Check.yes("cleared", heap.isCleared(1));
            Check.same("in the QUEUE", heap.queued(), isQueued);
        }
    }

    static void promise14ToIsASlot() {
        Edge.slot("newPhantom: to", Edge.NEW, (heap, to) -> putRow(heap, 1), (heap, to) -> heap.newPhantom(to, 1));
    }

    static void promise14OfIsASlot() {
        Edge.slot("newPhantom: of", Edge.NEW, MakingEdgesTest::putRow, (heap, of) -> heap.newPhantom(1, of));
    }

    static void promise14OfHoldsNothing() {
        Edge.badArgument("nothing", heap -> putRow(heap, 0), heap -> heap.newPhantom(0, 1));
        Edge.badArgument("nothing, to itself", Edge.NEW, heap -> heap.newPhantom(0, 0));
    }

    static void promise14SlotsAreLookedAtFirst() {
        Edge.noIndex("to 8, of holds nothing", Edge.NEW, heap -> heap.newPhantom(8, 0));
        Edge.noIndex("to -1, of 8", Edge.NEW, heap -> heap.newPhantom(-1, 8));
        Edge.noIndex("of 8", Edge.NEW, heap -> heap.newPhantom(0, 8));
    }

    static void promise14ThreeWords() {
        Edge.Act scene = heap -> putRow(heap, 1);
        isMade("newPhantom", 3, scene, (heap, to) -> heap.newPhantom(to, 1));
        asksForItsWords("newPhantom", 3, Edge.NEW, (heap, to) -> heap.newPhantom(to, 1));
    }

    static void promise14NoRoom() {
        findsNoRoom("newPhantom", Edge.NEW, (heap, to) -> heap.newPhantom(to, 1));
    }

    static void promise14AlwaysQueued() {
        RuntimeHeap heap = new RuntimeHeap();
        putRow(heap, 0);
        heap.newPhantom(0, 0);
        Check.same("its referent goes", heap.collectAll(false), 1);
        Check.same("in the QUEUE", heap.poll(1), 1);
    }

    // ---- promise 15

    static void promise15ToIsASlot() {
        Edge.slot("newTable", Edge.NEW, MakingEdgesTest::putRow, (heap, to) -> heap.newTable(to, 3));
    }

    static void promise15CapacityIsOneToSixteen() {
        Edge.range(ARGUMENT, "capacity", 1, 16, Edge.NEW, (heap, capacity) -> heap.newTable(0, capacity));
    }

    static void promise15SlotIsLookedAtAheadOfTheCapacity() {
        Edge.noIndex("slot 8, capacity 0", Edge.NEW, heap -> heap.newTable(8, 0));
        Edge.noIndex("slot -1, capacity 17", Edge.NEW, heap -> heap.newTable(-1, 17));
    }

    static void promise15TwoWordsForEachEntryThatThereCanBe() {
        isMade("the least", 4, Edge.NEW, (heap, to) -> heap.newTable(to, 1));
        isMade("15 entries, the last YOUNG table", 32, Edge.NEW, (heap, to) -> heap.newTable(to, 15));
        isMade("16 entries, the only OLD table", 34, Edge.NEW, (heap, to) -> heap.newTable(to, 16));
    }

    static void promise15NoEntriesAlsoWhereOthersWere() {
        RuntimeHeap heap = new RuntimeHeap();
        heap.newTable(0, 2);
        heap.put(0, 0, 0);
        heap.clear(0);
        heap.collectAll(false);
        heap.newTable(0, 2);
        Check.same("entries", heap.entriesOf(0), 0);
        Check.same("entries at most", heap.lengthOf(0), 2);
    }

    static void promise15AsksForItsWords() {
        asksForItsWords("1 entry", 4, Edge.NEW, (heap, to) -> heap.newTable(to, 1));
        asksForItsWords("15 entries", 32, Edge.NEW, (heap, to) -> heap.newTable(to, 15));
        asksForItsWords("16 entries", 34, Edge.NEW, (heap, to) -> heap.newTable(to, 16));
    }

    static void promise15NoRoom() {
        findsNoRoom("a YOUNG table", Edge.NEW, (heap, to) -> heap.newTable(to, 1));
        findsNoRoom("an OLD table", Edge.NEW, (heap, to) -> heap.newTable(to, 16));
    }

    // ---- room: by promise 10, as each method that makes objects asks for it in the same way

    private static void collections(RuntimeHeap heap, int young, int full) {
        Check.same("young collections", heap.youngCollections(), young);
        Check.same("full collections", heap.fullCollections(), full);
    }

    static void promise10ARefusedCallAsksForNoRoom() {
        Edge.Act full = heap -> {
            Fill.words(heap, 320, 96);
            heap.fromGlobal(0, 0);
            heap.beginMarking();
        };
        Edge.badArgument("newObject", full, heap -> heap.newObject(0, 0));
        Edge.badArgument("newRow", full, heap -> heap.newRow(0, 41));
        Edge.badArgument("newText", full, heap -> heap.newText(0, 121));
        Edge.badArgument("newWeak", full, heap -> heap.newWeak(0, 1, true));
        Edge.badArgument("newSoft", full, heap -> heap.newSoft(0, 1, true));
        Edge.badArgument("newPhantom", full, heap -> heap.newPhantom(0, 1));
        Edge.badArgument("newTable", full, heap -> heap.newTable(0, 17));
        Edge.badArgument("deepCopy", full, heap -> heap.deepCopy(0, 1));
        Edge.noIndex("newRow", full, heap -> heap.newRow(8, 40));
        Edge.noIndex("newWeak", full, heap -> heap.newWeak(0, 8, true));
        Edge.noIndex("deepCopy", full, heap -> heap.deepCopy(8, 0));
        Edge.noIndex("readImage", full, heap -> heap.readImage(8));
    }

    static void promise10RoomIsThereUpToTheLastWord() {
        RuntimeHeap heap = new RuntimeHeap();
        Fill.words(heap, 320, 94);
        Check.yes("2 words", heap.newRow(0, 0) >= 0);
        Check.same("young words", heap.youngWords(), 96);
        Check.same("old words", heap.oldWords(), 320);
        collections(heap, 0, 0);
    }

    static void promise10RoomOfTheYoungIsNotThatOfTheOld() {
        RuntimeHeap young = new RuntimeHeap();
        Fill.words(young, 0, 96);
        Check.yes("an OLD one beside 96 YOUNG words", young.newRow(0, 40) >= 0);
        collections(young, 0, 0);
        RuntimeHeap old = new RuntimeHeap();
        Fill.words(old, 320, 0);
        Check.yes("a YOUNG one beside 320 OLD words", old.newRow(0, 30) >= 0);
        collections(old, 0, 0);
    }

    static void promise10RoomBehindAYoungCollectionNeedsNoFullOne() {
        RuntimeHeap heap = new RuntimeHeap();
        Fill.words(heap, 0, 64);
        heap.newRow(0, 30);
        heap.clear(0);
        Check.yes("32 words go", heap.newRow(0, 30) >= 0);
        Check.same("young words", heap.youngWords(), 96);
        collections(heap, 1, 0);
    }

    static void promise10RoomBehindAFullCollectionNeedsNoPressedOne() {
        RuntimeHeap heap = new RuntimeHeap();
        putRow(heap, 0);
        heap.newSoft(0, 0, false);
        heap.toGlobal(7, 0);
        Fill.words(heap, 120, 96);
        Check.same("young words", heap.youngWords(), 96);
        Check.yes("a young one makes none OLD of age 1", heap.newRow(0, 0) >= 0);
        collections(heap, 1, 1);
        heap.fromGlobal(1, 7);
        Check.no("the SOFT", heap.isCleared(1));
        Check.same("old words", heap.oldWords(), 120 + 96);
    }

    static void promise10RoomIsFoundAtLastByAPressedCollection() {
        RuntimeHeap heap = new RuntimeHeap();
        heap.newText(0, 0);
        heap.newSoft(0, 0, true);
        heap.toGlobal(7, 0);
        Fill.words(heap, 320, 96);
        Check.yes("2 words", heap.newRow(0, 0) >= 0);
        collections(heap, 0, 3);
        Check.same("the SOFT is QUEUED", heap.queued(), 1);
        Check.same("young words", heap.youngWords(), 96);
    }

    static void promise10NoRoomBehindAPressedCollectionByOneWord() {
        RuntimeHeap heap = new RuntimeHeap();
        heap.newText(0, 0);
        heap.newSoft(0, 0, true);
        heap.toGlobal(7, 0);
        Fill.words(heap, 320, 96);
        Check.same("3 words", heap.newRow(0, 1), -1);
        collections(heap, 0, 3);
        Check.same("what was done stays done", heap.queued(), 1);
        Check.same("young words", heap.youngWords(), 94);
        Check.same("made", heap.made(), heap.objects() + 1);
    }

    static void promise10NoRoomBehindAllFourLeavesWhatWasDone() {
        RuntimeHeap heap = new RuntimeHeap();
        heap.setTenure(4);
        Fill.words(heap, 279, 30);
        Check.same("42 words beside 279", heap.newRow(0, 40), -1);
        collections(heap, 1, 2);
        Check.same("the YOUNG ones became OLD by the full one", heap.oldWords(), 309);
        heap.fromGlobal(0, 0);
        Check.same("behind they were one older by the young one", heap.ageOf(0), 1);
    }

    static void promise10RoomIsAskedForOnceMoreBehindEachCollection() {
        // The young collection makes the one of age 1 OLD, by which there is room, so no full one follows.
        RuntimeHeap heap = new RuntimeHeap();
        Fill.words(heap, 0, 32);
        heap.collectYoung();
        heap.newRow(0, 30);
        heap.newRow(1, 30);
        Check.yes("32 words", heap.newRow(2, 30) >= 0);
        collections(heap, 2, 0);
        Check.same("old words", heap.oldWords(), 32);
        Check.same("young words", heap.youngWords(), 96);
    }

    static void promise10RoomEndsMarkingOnlyIfThereIsNone() {
        RuntimeHeap heap = new RuntimeHeap();
        Fill.words(heap, 0, 94);
        heap.beginMarking();
        putRow(heap, 0);
        Check.yes("with room marking goes on", heap.isMarking());
        collections(heap, 0, 0);
        putRow(heap, 1);
        Check.no("without it comes to its end", heap.isMarking());
        collections(heap, 0, 1);
    }

    static void promise10RoomOfTheOldEndsMarkingToo() {
        RuntimeHeap heap = new RuntimeHeap();
        Fill.words(heap, 278, 0);
        heap.newRow(0, 40);
        heap.clear(0);
        heap.beginMarking();
        Check.yes("40 places", heap.newRow(0, 40) >= 0);
        Check.no("isMarking", heap.isMarking());
        collections(heap, 0, 1);
        Check.same("old words", heap.oldWords(), 320);
    }

    static void promise10RoomBehindTheEndOfMarkingNeedsAllTheOthers() {
        RuntimeHeap heap = new RuntimeHeap();
        Fill.words(heap, 278, 0);
        heap.newRow(0, 40);
        heap.beginMarking();
        heap.clear(0);
        Check.yes("what was TO KEEP goes by the full one", heap.newRow(1, 39) >= 0);
        collections(heap, 1, 2);
        Check.same("old words", heap.oldWords(), 319);
    }

    static void promise10NoRoomWithMarkingOnLeavesItOff() {
        RuntimeHeap heap = new RuntimeHeap();
        Fill.words(heap, 320, 96);
        heap.beginMarking();
        Check.same("no room", heap.newRow(0, 0), -1);
        Check.no("isMarking", heap.isMarking());
        collections(heap, 0, 4);
        Check.same("the slot", heap.numberOf(0), -1);
    }
}
