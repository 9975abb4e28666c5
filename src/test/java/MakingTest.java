/** Promises 9 to 21: making objects, and room for them; fields, places and bytes. */
final class MakingTest {
    public static void main(String[] args) {
        Check.runAll(MakingTest.class);
    }

    static void promise9NewObject() {
        RuntimeHeap heap = new RuntimeHeap();
        Check.badArgument(heap, "no kind is there", () -> heap.newObject(0, 0));
        heap.defineKind(-1, 2, 3, false);
        heap.defineKind(0, 1, 0, false);
        Check.same("newObject", heap.newObject(4, 1), 0);
        Check.same("form", heap.formOf(4), 0);
        Check.same("kind", heap.kindOf(4), 1);
        Check.same("words", heap.wordsOf(4), 8);
        Check.same("age", heap.ageOf(4), 0);
        Check.no("old", heap.isOld(4));
        for (int i = 0; i < 3; i++) {
            Check.same("a field holds nothing", heap.load(0, 4, i), -1);
            Check.same("a number is 0", heap.getNumber(4, i), 0);
        }
        Check.same("the next one", heap.newObject(4, 0), 1);
        Check.noIndex(heap, "slot 8", () -> heap.newObject(8, 0));
        Check.noIndex(heap, "slot -1, ahead of the kind", () -> heap.newObject(-1, 7));
        Check.badArgument(heap, "kind 2", () -> heap.newObject(0, 2));
        Check.badArgument(heap, "kind -1", () -> heap.newObject(0, -1));
    }

    static void promise9ReusesNothingOfTheRemoved() {
        RuntimeHeap heap = new RuntimeHeap();
        heap.defineKind(-1, 2, 2, true);
        heap.newObject(0, 0);
        heap.store(0, 0, 0);
        heap.setNumber(0, 1, 9);
        heap.clear(0);
        heap.collectAll(false);
        heap.takeLast(0);
        heap.clear(0);
        heap.collectAll(false);
        Check.same("all gone", heap.objects(), 0);
        heap.newObject(0, 0);
        Check.same("number", heap.numberOf(0), 1);
        Check.same("field", heap.load(1, 0, 0), -1);
        Check.same("number field", heap.getNumber(0, 1), 0);
        Check.no("finalized", heap.isFinalized(0));
        Check.no("old", heap.isOld(0));
    }

    static void promise9FreshInAllRespects() {
        RuntimeHeap heap = new RuntimeHeap();
        heap.setTenure(4);
        heap.newText(0, 3);
        heap.intern(0, 0);
        heap.collectYoung();
        heap.clear(0);
        heap.collectYoung();
        heap.newText(0, 3);
        Check.same("age", heap.ageOf(0), 0);
        Check.no("INTERNED", heap.isInterned(0));
        Check.same("interned", heap.interned(), 0);
    }

    static void promise10NewRow() {
        RuntimeHeap heap = new RuntimeHeap();
        Check.same("newRow(40)", heap.newRow(0, 40), 0);
        Check.same("form", heap.formOf(0), 1);
        Check.same("words", heap.wordsOf(0), 42);
        Check.yes("more than 32 words are OLD", heap.isOld(0));
        Check.same("newRow(30)", heap.newRow(1, 30), 1);
        Check.no("32 words are YOUNG", heap.isOld(1));
        Check.same("newRow(31)", heap.newRow(2, 31), 2);
        Check.yes("33 words are OLD", heap.isOld(2));
        Check.same("newRow(0)", heap.newRow(3, 0), 3);
        Check.same("words", heap.wordsOf(3), 2);
        for (int i = 0; i < 40; i++) {
            Check.same("a place holds nothing", heap.load(7, 0, i), -1);
        }
        Check.noIndex(heap, "slot 8", () -> heap.newRow(8, 41));
        Check.badArgument(heap, "length 41", () -> heap.newRow(0, 41));
        Check.badArgument(heap, "length -1", () -> heap.newRow(0, -1));
    }

    static void promise10RoomFound() {
        RuntimeHeap heap = new RuntimeHeap();
        heap.newRow(0, 30);
        heap.newRow(1, 30);
        heap.newRow(2, 30);
        Check.same("exactly 96 words", heap.youngWords(), 96);
        Check.same("no collection so far", heap.youngCollections(), 0);
        heap.clear(1);
        Check.same("newRow", heap.newRow(1, 30), 3);
        Check.same("a young collection made room", heap.youngCollections(), 1);
        Check.same("no full one was wanted", heap.fullCollections(), 0);
        Check.same("objects", heap.objects(), 3);
        Check.same("a full one makes room by making OLD", heap.newRow(3, 30), 4);
        Check.same("young collections", heap.youngCollections(), 2);
        Check.same("full collections", heap.fullCollections(), 0);
        Check.yes("age 2 is TENURE", heap.isOld(0));
        Check.no("age 1 is not", heap.isOld(1));
    }

    static void promise10ExactlyAsMuchRoom() {
        RuntimeHeap heap = new RuntimeHeap();
        heap.newRow(0, 30);
        heap.newRow(1, 30);
        heap.newRow(2, 29);
        Check.same("young words", heap.youngWords(), 95);
        heap.newRow(3, 0);
        Check.same("97 are too many", heap.youngCollections(), 1);
        RuntimeHeap old = new RuntimeHeap();
        for (int i = 0; i < 7; i++) {
            old.newRow(i, 38);
        }
        Check.same("exactly 320", old.newRow(7, 38), 7);
        Check.same("without a collection", old.fullCollections() + old.youngCollections(), 0);
        Check.same("old words", old.oldWords(), 320);
        old.newRow(7, 39);
        Check.same("321 are too many", old.youngCollections(), 1);
    }

    static void promise10AsManyObjectsAsThereCanBe() {
        RuntimeHeap heap = new RuntimeHeap();
        heap.defineKind(-1, 0, 0, false);
        heap.newRow(0, 3);
        int[] lengths = {120, 120, 69};
        for (int i = 0; i < 3; i++) {
            heap.newText(1, lengths[i]);
            heap.store(0, i, 1);
        }
        heap.writeImage(0);
        // An IMAGE of nothing but 0 behind its first number: PLAIN objects without fields, 2 words each.
        for (int place = 0; place < heap.imageLength(); place++) {
            if (heap.imageAt(place) != 0) {
                heap.setImage(place, 0);
            }
        }
        heap.setImage(0, 160);
        heap.clear(0);
        heap.clear(1);
        heap.collectAll(false);
        Check.same("160 OLD ones", heap.readImage(0), 4);
        Check.same("old words", heap.oldWords(), 320);
        for (int i = 0; i < 48; i++) {
            heap.newRow(1, 0);
        }
        Check.same("48 YOUNG ones", heap.objects(), 208);
        Check.same("the last one", heap.numberOf(1), 4 + 208 - 1);
        Check.same("young words", heap.youngWords(), 96);
        Check.same("flaws", heap.flaws(), 0);
        Check.same("heaviest", heap.heaviest(), 4);
        Check.same("wouldRemove", heap.wouldRemove(false), 206);
        Check.same("the mean", heap.meanWords(), 2.0);
        Check.same("one more", heap.newRow(2, 0), 4 + 208);
        Check.same("a full one was done", heap.fullCollections(), 2);
        Check.same("objects", heap.objects(), 3);
    }

    static void promise10NoRoom() {
        RuntimeHeap heap = new RuntimeHeap();
        for (int i = 0; i < 7; i++) {
            heap.newRow(i, 40);
        }
        heap.push(8);
        Check.same("294 words are OLD", heap.oldWords(), 294);
        heap.newRow(0, 30);
        heap.newRow(1, 30);
        heap.newRow(2, 30);
        Check.same("no room", heap.newRow(0, 0), -1);
        Check.same("the slot stays as it is", heap.numberOf(0), 7);
        Check.same("made", heap.made(), 10);
        // All together have 390 words, so a full one is done instead of the young one.
        Check.same("young collections", heap.youngCollections(), 0);
        Check.same("full collections", heap.fullCollections(), 3);
        Check.same("no room for an OLD one", heap.newRow(1, 40), -1);
        Check.same("full collections", heap.fullCollections(), 6);
        heap.clear(1);
        Check.same("there is room again", heap.newRow(3, 0), 10);
        Check.same("full collections", heap.fullCollections(), 7);
    }

    static void promise10PressedMakesRoom() {
        RuntimeHeap heap = new RuntimeHeap();
        heap.newRow(0, 30);
        heap.newSoft(1, 0, true);
        heap.clear(0);
        heap.newRow(2, 30);
        heap.newRow(3, 25);
        for (int i = 0; i < 7; i++) {
            heap.newRow(0, 40);
            heap.toGlobal(i, 0);
        }
        Check.same("young words", heap.youngWords(), 94);
        Check.same("old words", heap.oldWords(), 294);
        Check.same("newRow", heap.newRow(0, 30), 11);
        Check.yes("the SOFT was cleared", heap.isCleared(1));
        Check.no("its referent is gone", heap.isPresent(0));
        Check.same("queued", heap.queued(), 1);
        Check.same("full collections", heap.fullCollections(), 3);
    }

    static void promise10RoomEndsMarking() {
        RuntimeHeap heap = new RuntimeHeap();
        heap.newRow(0, 30);
        heap.newRow(1, 30);
        heap.newRow(2, 30);
        heap.beginMarking();
        heap.clear(2);
        Check.same("the end of marking makes all OLD", heap.newRow(3, 30), 3);
        Check.no("marking is off", heap.isMarking());
        Check.same("full collections", heap.fullCollections(), 1);
        Check.same("young collections", heap.youngCollections(), 0);
        Check.yes("what the PICTURE held is kept", heap.isPresent(2));
        Check.same("old words", heap.oldWords(), 96);
    }

    static void promise11NewText() {
        RuntimeHeap heap = new RuntimeHeap();
        Check.same("newText(120)", heap.newText(0, 120), 0);
        Check.same("form", heap.formOf(0), 2);
        Check.same("words", heap.wordsOf(0), 32);
        Check.no("not INTERNED", heap.isInterned(0));
        Check.no("YOUNG", heap.isOld(0));
        int[] words = {2, 3, 3, 3, 3, 4};
        for (int length = 0; length <= 5; length++) {
            heap.newText(1, length);
            Check.same("words of " + length + " bytes", heap.wordsOf(1), words[length]);
        }
        for (int i = 0; i < 120; i++) {
            Check.same("a byte is 0", heap.getByte(0, i), 0);
        }
        Check.noIndex(heap, "slot -1", () -> heap.newText(-1, 121));
        Check.badArgument(heap, "length 121", () -> heap.newText(0, 121));
        Check.badArgument(heap, "length -1", () -> heap.newText(0, -1));
    }

    static void promise11AsManyBytesAsThereCanBe() {
        RuntimeHeap heap = new RuntimeHeap();
        heap.newRow(0, 9);
        for (int i = 0; i < 9; i++) {
            heap.newText(1, 120);
            heap.setByte(1, 119, i);
            heap.store(0, i, 1);
            heap.collectAll(false);
        }
        Check.same("words", heap.oldWords(), 11 + 9 * 32);
        for (int i = 1; i <= 3; i++) {
            heap.newText(i, 120);
            heap.setByte(i, 0, 100 + i);
        }
        Check.same("words", heap.youngWords(), 96);
        for (int i = 0; i < 9; i++) {
            heap.load(4, 0, i);
            Check.same("the last byte of each", heap.getByte(4, 119), i);
        }
        Check.same("the first byte of a YOUNG one", heap.getByte(2, 0), 102);
    }

    static void promise12NewWeak() {
        RuntimeHeap heap = new RuntimeHeap();
        heap.newRow(0, 0);
        Check.same("newWeak", heap.newWeak(1, 0, true), 1);
        Check.same("form", heap.formOf(1), 3);
        Check.same("words", heap.wordsOf(1), 3);
        Check.yes("its referent", heap.refersTo(1, 0));
        Check.same("over its referent", heap.newWeak(0, 0, false), 2);
        heap.clear(2);
        Check.same("the ROW goes, which nothing holds", heap.collectAll(false), 1);
        Check.yes("cleared", heap.isCleared(0));
        Check.yes("cleared", heap.isCleared(1));
        Check.same("one is QUEUED", heap.queued(), 1);
        Check.same("the QUEUED one", heap.poll(5), 1);
        Check.noIndex(heap, "slot to", () -> heap.newWeak(8, 3, true));
        Check.noIndex(heap, "slot of", () -> heap.newWeak(0, 8, true));
        Check.badArgument(heap, "of holds nothing", () -> heap.newWeak(0, 3, true));
    }

    static void promise13NewSoft() {
        RuntimeHeap heap = new RuntimeHeap();
        heap.newRow(0, 0);
        Check.same("newSoft", heap.newSoft(1, 0, false), 1);
        Check.same("newSoft", heap.newSoft(2, 0, true), 2);
        Check.same("form", heap.formOf(1), 4);
        Check.same("words", heap.wordsOf(1), 3);
        heap.clear(0);
        Check.same("a SOFT holds its referent", heap.collectAll(false), 0);
        Check.no("cleared", heap.isCleared(1));
        Check.same("not if PRESSED", heap.collectAll(true), 1);
        Check.yes("cleared", heap.isCleared(1));
        Check.same("one is QUEUED", heap.queued(), 1);
        Check.same("the QUEUED one", heap.poll(5), 2);
        Check.noIndex(heap, "slot to", () -> heap.newSoft(8, 3, true));
        Check.noIndex(heap, "slot of", () -> heap.newSoft(0, 8, true));
        Check.badArgument(heap, "of holds nothing", () -> heap.newSoft(0, 3, true));
    }

    static void promise14NewPhantom() {
        RuntimeHeap heap = new RuntimeHeap();
        heap.newRow(0, 0);
        Check.same("newPhantom", heap.newPhantom(1, 0), 1);
        Check.same("form", heap.formOf(1), 5);
        Check.same("words", heap.wordsOf(1), 3);
        Check.yes("its referent", heap.refersTo(1, 0));
        heap.clear(0);
        Check.same("it does not hold", heap.collectAll(false), 1);
        Check.same("it is QUEUED", heap.poll(5), 1);
        Check.noIndex(heap, "slot to", () -> heap.newPhantom(8, 3));
        Check.noIndex(heap, "slot of", () -> heap.newPhantom(0, 8));
        Check.badArgument(heap, "of holds nothing", () -> heap.newPhantom(0, 3));
    }

    static void promise14NoRoomForAReference() {
        RuntimeHeap heap = new RuntimeHeap();
        for (int i = 0; i < 7; i++) {
            heap.newRow(i, 40);
        }
        heap.push(8);
        heap.newRow(0, 30);
        heap.newRow(1, 30);
        heap.newRow(2, 29);
        Check.same("young words", heap.youngWords(), 95);
        Check.same("newRow", heap.newRow(4, 22), -1);
        Check.same("newWeak", heap.newWeak(3, 0, true), -1);
        Check.same("newSoft", heap.newSoft(3, 0, true), -1);
        Check.same("newPhantom", heap.newPhantom(3, 0), -1);
        Check.same("newTable", heap.newTable(3, 1), -1);
        Check.same("the slot stays", heap.numberOf(3), -1);
        Check.same("made", heap.made(), 10);
    }

    static void promise15NewTable() {
        RuntimeHeap heap = new RuntimeHeap();
        Check.same("newTable(15)", heap.newTable(0, 15), 0);
        Check.same("form", heap.formOf(0), 6);
        Check.same("words", heap.wordsOf(0), 32);
        Check.same("capacity", heap.lengthOf(0), 15);
        Check.same("no entries", heap.entriesOf(0), 0);
        Check.no("YOUNG", heap.isOld(0));
        Check.same("newTable(16)", heap.newTable(1, 16), 1);
        Check.yes("OLD", heap.isOld(1));
        Check.same("newTable(1)", heap.newTable(2, 1), 2);
        Check.same("words", heap.wordsOf(2), 4);
        Check.noIndex(heap, "slot 8", () -> heap.newTable(8, 0));
        Check.badArgument(heap, "capacity 0", () -> heap.newTable(0, 0));
        Check.badArgument(heap, "capacity 17", () -> heap.newTable(0, 17));
    }

    private static RuntimeHeap withHolders() {
        RuntimeHeap heap = new RuntimeHeap();
        heap.defineKind(-1, 1, 1, false);
        heap.defineKind(0, 1, 2, false);
        heap.newObject(0, 1);
        heap.newRow(1, 3);
        heap.newText(2, 4);
        heap.newTable(3, 2);
        heap.newWeak(4, 0, false);
        return heap;
    }

    static void promise16Load() {
        RuntimeHeap heap = withHolders();
        heap.store(0, 1, 2);
        heap.store(1, 2, 0);
        Check.same("load of a field", heap.load(5, 0, 1), 2);
        Check.same("slot", heap.numberOf(5), 2);
        Check.same("load of a place", heap.load(5, 1, 2), 0);
        Check.same("load of nothing", heap.load(5, 1, 1), -1);
        Check.same("slot", heap.numberOf(5), -1);
        Check.noIndex(heap, "to", () -> heap.load(8, 7, 0));
        Check.noIndex(heap, "holder", () -> heap.load(0, -1, 0));
        Check.badArgument(heap, "nothing", () -> heap.load(5, 7, 0));
        Check.badArgument(heap, "a TEXT", () -> heap.load(5, 2, 0));
        Check.badArgument(heap, "a TABLE", () -> heap.load(5, 3, 0));
        Check.badArgument(heap, "a WEAK", () -> heap.load(5, 4, 0));
        Check.badArgument(heap, "field 2", () -> heap.load(5, 0, 2));
        Check.badArgument(heap, "place 3", () -> heap.load(5, 1, 3));
        Check.badArgument(heap, "place -1", () -> heap.load(5, 1, -1));
        Check.same("over the holder", heap.load(0, 0, 1), 2);
    }

    static void promise17WhatIsHeldStaysWhenOthersGo() {
        RuntimeHeap heap = withHolders();
        heap.newRow(5, 2);
        heap.newRow(6, 2);
        heap.store(5, 0, 6);
        heap.store(6, 1, 5);
        heap.setNumber(0, 2, 44);
        heap.setByte(2, 3, 55);
        heap.clear(1);
        heap.clear(3);
        heap.collectYoung();
        heap.newRow(1, 6);
        for (int i = 0; i < 6; i++) {
            heap.store(1, i, 1);
        }
        Check.same("a place", heap.load(7, 5, 0), 6);
        Check.same("a place", heap.load(7, 5, 1), -1);
        Check.same("a place", heap.load(7, 6, 1), 5);
        Check.same("a number", heap.getNumber(0, 2), 44);
        Check.same("a byte", heap.getByte(2, 3), 55);
        Check.yes("a referent", heap.refersTo(4, 0));
    }

    static void promise17Store() {
        RuntimeHeap heap = withHolders();
        Check.same("store", heap.store(0, 0, 1), -1);
        Check.same("store", heap.store(0, 0, 0), 1);
        Check.same("store of nothing", heap.store(0, 0, 7), 0);
        Check.same("load", heap.load(5, 0, 0), -1);
        Check.same("store in a place", heap.store(1, 2, 3), -1);
        Check.same("the other places stay", heap.load(5, 1, 1), -1);
        Check.same("load", heap.load(5, 1, 2), 3);
        Check.noIndex(heap, "holder", () -> heap.store(8, 9, 0));
        Check.noIndex(heap, "from", () -> heap.store(7, 9, 8));
        Check.badArgument(heap, "nothing", () -> heap.store(7, 0, 0));
        Check.badArgument(heap, "a TEXT", () -> heap.store(2, 0, 0));
        Check.badArgument(heap, "a TABLE", () -> heap.store(3, 0, 0));
        Check.badArgument(heap, "a WEAK", () -> heap.store(4, 0, 0));
        Check.badArgument(heap, "field 2", () -> heap.store(0, 2, 1));
        Check.badArgument(heap, "place 3", () -> heap.store(1, 3, 1));
        Check.badArgument(heap, "place -1", () -> heap.store(1, -1, 1));
        Check.same("what was there stays", heap.load(5, 1, 2), 3);
    }

    static void promise18GetNumber() {
        RuntimeHeap heap = withHolders();
        heap.store(0, 0, 1);
        heap.store(0, 1, 1);
        Check.same("at first", heap.getNumber(0, 0), 0);
        heap.setNumber(0, 0, 11);
        heap.setNumber(0, 2, -13);
        Check.same("field 0", heap.getNumber(0, 0), 11);
        Check.same("field 1", heap.getNumber(0, 1), 0);
        Check.same("field 2", heap.getNumber(0, 2), -13);
        Check.noIndex(heap, "slot 8", () -> heap.getNumber(8, 9));
        Check.badArgument(heap, "nothing", () -> heap.getNumber(7, 0));
        Check.badArgument(heap, "a ROW", () -> heap.getNumber(1, 0));
        Check.badArgument(heap, "a TEXT", () -> heap.getNumber(2, 0));
        Check.badArgument(heap, "field 3", () -> heap.getNumber(0, 3));
        Check.badArgument(heap, "field -1", () -> heap.getNumber(0, -1));
    }

    static void promise19SetNumber() {
        RuntimeHeap heap = withHolders();
        Check.same("setNumber", heap.setNumber(0, 2, Integer.MIN_VALUE), 0);
        Check.same("setNumber", heap.setNumber(0, 2, 5), Integer.MIN_VALUE);
        Check.same("getNumber", heap.getNumber(0, 2), 5);
        Check.same("the next one stays", heap.getNumber(0, 1), 0);
        Check.same("the fields stay", heap.load(7, 0, 1), -1);
        Check.noIndex(heap, "slot -1", () -> heap.setNumber(-1, 9, 0));
        Check.badArgument(heap, "nothing", () -> heap.setNumber(7, 0, 1));
        Check.badArgument(heap, "a ROW", () -> heap.setNumber(1, 0, 1));
        Check.badArgument(heap, "a WEAK", () -> heap.setNumber(4, 0, 1));
        Check.badArgument(heap, "field 3", () -> heap.setNumber(0, 3, 1));
        Check.badArgument(heap, "field -1", () -> heap.setNumber(0, -1, 1));
        Check.same("what was there stays", heap.getNumber(0, 2), 5);
    }

    static void promise20GetByte() {
        RuntimeHeap heap = withHolders();
        heap.setByte(2, 0, 1);
        heap.setByte(2, 3, 255);
        Check.same("byte 0", heap.getByte(2, 0), 1);
        Check.same("byte 1", heap.getByte(2, 1), 0);
        Check.same("byte 3", heap.getByte(2, 3), 255);
        Check.noIndex(heap, "slot 8", () -> heap.getByte(8, 9));
        Check.badArgument(heap, "nothing", () -> heap.getByte(7, 0));
        Check.badArgument(heap, "a ROW", () -> heap.getByte(1, 0));
        Check.badArgument(heap, "byte 4", () -> heap.getByte(2, 4));
        Check.badArgument(heap, "byte -1", () -> heap.getByte(2, -1));
        heap.intern(2, 2);
        Check.same("of an INTERNED one", heap.getByte(2, 3), 255);
    }

    static void promise21SetByte() {
        RuntimeHeap heap = withHolders();
        Check.same("setByte", heap.setByte(2, 1, 255), 0);
        Check.same("setByte", heap.setByte(2, 1, 0), 255);
        heap.setByte(2, 1, 77);
        Check.noIndex(heap, "slot 8", () -> heap.setByte(8, 9, 300));
        Check.badArgument(heap, "nothing", () -> heap.setByte(7, 0, 0));
        Check.badArgument(heap, "a PLAIN", () -> heap.setByte(0, 0, 0));
        Check.badArgument(heap, "byte 4", () -> heap.setByte(2, 4, 0));
        Check.badArgument(heap, "byte -1", () -> heap.setByte(2, -1, 0));
        Check.badArgument(heap, "value 256", () -> heap.setByte(2, 1, 256));
        Check.badArgument(heap, "value -1", () -> heap.setByte(2, 1, -1));
        heap.intern(5, 2);
        Check.badState(heap, "INTERNED", () -> heap.setByte(2, 1, 78));
        Check.badArgument(heap, "the value ahead of the state", () -> heap.setByte(2, 1, 256));
        Check.badArgument(heap, "the byte ahead of the state", () -> heap.setByte(2, 4, 1));
        Check.same("what was there stays", heap.getByte(2, 1), 77);
    }
}
