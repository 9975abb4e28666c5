/** Boundary cases of the promises 16 to 21: fields, places and bytes. */
final class FieldsEdgesTest {
    private static final Class<IllegalArgumentException> ARGUMENT = IllegalArgumentException.class;

    // What a slot holds in SORTS: one object of each form; nothing in slot 7.
    private static final int PLAIN = 0;
    private static final int ROW = 1;
    private static final int TEXT = 2;
    private static final int WEAK = 3;
    private static final int SOFT = 4;
    private static final int PHANTOM = 5;
    private static final int TABLE = 6;
    private static final int NOTHING = 7;

    private static final Edge.Act SORTS = FieldsEdgesTest::sorts;

    public static void main(String[] args) {
        Check.runAll(FieldsEdgesTest.class);
    }

    /** A PLAIN of 2 reference and 3 number fields, a ROW of 4 places, a TEXT of 5 bytes, one of each other form. */
    private static void sorts(RuntimeHeap heap) {
        heap.defineKind(-1, 1, 2, false);
        heap.defineKind(0, 1, 1, false);
        heap.newObject(PLAIN, 1);
        heap.newRow(ROW, 4);
        heap.newText(TEXT, 5);
        heap.newWeak(WEAK, ROW, false);
        heap.newSoft(SOFT, ROW, false);
        heap.newPhantom(PHANTOM, ROW);
        heap.newTable(TABLE, 3);
    }

    private static void widest(RuntimeHeap heap) {
        heap.defineKind(-1, 4, 4, false);
        heap.defineKind(0, 4, 4, false);
        heap.newObject(0, 1);
        heap.newRow(1, 40);
        heap.newText(2, 120);
        heap.defineKind(-1, 0, 0, false);
        heap.newObject(3, 2);
        heap.newRow(4, 0);
        heap.newText(5, 0);
    }

    private static void putRow(RuntimeHeap heap, int slot) {
        heap.newRow(slot, 1);
    }

    private static void putText(RuntimeHeap heap, int slot) {
        heap.newText(slot, 1);
    }

    private static void kind(RuntimeHeap heap) {
        heap.defineKind(-1, 1, 1, false);
    }

    private static void putObject(RuntimeHeap heap, int slot) {
        heap.newObject(slot, 0);
    }

    // ---- promise 16

    static void promise16ToIsASlot() {
        Edge.slot("load: to", Edge.NEW, (heap, to) -> putRow(heap, 1), (heap, to) -> heap.load(to, 1, 0));
    }

    static void promise16HolderIsASlot() {
        Edge.slot("load: holder", Edge.NEW, FieldsEdgesTest::putRow, (heap, holder) -> heap.load(1, holder, 0));
    }

    static void promise16PlaceIsOneOfTheHolder() {
        Edge.range(ARGUMENT, "field of 2", 0, 1, SORTS, (heap, place) -> heap.load(7, PLAIN, place));
        Edge.range(ARGUMENT, "place of 4", 0, 3, SORTS, (heap, place) -> heap.load(7, ROW, place));
        Edge.range(ARGUMENT, "field of 8", 0, 7, FieldsEdgesTest::widest, (heap, place) -> heap.load(7, 0, place));
        Edge.range(ARGUMENT, "place of 40", 0, 39, FieldsEdgesTest::widest, (heap, place) -> heap.load(7, 1, place));
        Edge.badArgument("field 0 of none", FieldsEdgesTest::widest, heap -> heap.load(7, 3, 0));
        Edge.badArgument("place 0 of none", FieldsEdgesTest::widest, heap -> heap.load(7, 4, 0));
    }

    static void promise16NumberFieldsAreNotReferenceFields() {
        Edge.badArgument("behind the last reference field", SORTS, heap -> heap.load(7, PLAIN, 2));
        Edge.badArgument("the last number field", SORTS, heap -> heap.load(7, PLAIN, 4));
    }

    static void promise16HolderIsNoPlainAndNoRow() {
        for (int holder : new int[] {TEXT, WEAK, SOFT, PHANTOM, TABLE, NOTHING}) {
            Edge.badArgument("holder " + holder, SORTS, heap -> heap.load(0, holder, 0));
        }
    }

    static void promise16SlotsAreLookedAtFirst() {
        Edge.noIndex("to 8, holder holds nothing", SORTS, heap -> heap.load(8, NOTHING, 0));
        Edge.noIndex("to -1, no such place", SORTS, heap -> heap.load(-1, ROW, 4));
        Edge.noIndex("holder 8, place -1", SORTS, heap -> heap.load(0, 8, -1));
    }

    static void promise16NothingIsLoaded() {
        Edge.answers("its number", -1, SORTS, heap -> heap.load(TEXT, ROW, 3));
        Edge.answers("what to holds then", -1, Edge.both(SORTS, heap -> heap.load(TEXT, ROW, 3)),
            heap -> heap.numberOf(TEXT));
    }

    static void promise16IntoTheSlotOfTheHolder() {
        Edge.Act scene = Edge.both(SORTS, heap -> heap.store(ROW, 3, TEXT));
        Edge.answers("its number", 2, scene, heap -> heap.load(ROW, ROW, 3));
        Edge.answers("what to holds then", 2, Edge.both(scene, heap -> heap.load(ROW, ROW, 3)),
            heap -> heap.numberOf(ROW));
    }

    static void promise16FirstAndLastOfTheMostFields() {
        RuntimeHeap heap = Edge.behind(FieldsEdgesTest::widest);
        heap.store(0, 0, 1);
        heap.store(0, 7, 2);
        heap.store(1, 0, 3);
        heap.store(1, 39, 4);
        Check.same("field 0", heap.load(6, 0, 0), 1);
        Check.same("field 7", heap.load(6, 0, 7), 2);
        Check.same("place 0", heap.load(6, 1, 0), 3);
        Check.same("place 39", heap.load(6, 1, 39), 4);
        Check.same("a field between", heap.load(6, 0, 6), -1);
        Check.same("a place between", heap.load(6, 1, 38), -1);
        Check.same("number field 0, behind field 7", heap.getNumber(0, 0), 0);
    }

    // ---- promise 17

    static void promise17HolderIsASlot() {
        Edge.slot("store: holder", Edge.NEW, FieldsEdgesTest::putRow, (heap, holder) -> heap.store(holder, 0, 1));
    }

    static void promise17FromIsASlot() {
        Edge.slot("store: from", Edge.NEW, (heap, from) -> putRow(heap, 1), (heap, from) -> heap.store(1, 0, from));
    }

    static void promise17PlaceIsOneOfTheHolder() {
        Edge.range(ARGUMENT, "field of 2", 0, 1, SORTS, (heap, place) -> heap.store(PLAIN, place, TEXT));
        Edge.range(ARGUMENT, "place of 4", 0, 3, SORTS, (heap, place) -> heap.store(ROW, place, TEXT));
        Edge.range(ARGUMENT, "field of 8", 0, 7, FieldsEdgesTest::widest, (heap, place) -> heap.store(0, place, 2));
        Edge.range(ARGUMENT, "place of 40", 0, 39, FieldsEdgesTest::widest, (heap, place) -> heap.store(1, place, 2));
        Edge.badArgument("field 0 of none", FieldsEdgesTest::widest, heap -> heap.store(3, 0, 0));
        Edge.badArgument("place 0 of none", FieldsEdgesTest::widest, heap -> heap.store(4, 0, 0));
    }

    static void promise17NumberFieldsAreNotReferenceFields() {
        Edge.badArgument("behind the last reference field", SORTS, heap -> heap.store(PLAIN, 2, TEXT));
        Edge.badArgument("the last number field", SORTS, heap -> heap.store(PLAIN, 4, TEXT));
    }

    static void promise17HolderIsNoPlainAndNoRow() {
        for (int holder : new int[] {TEXT, WEAK, SOFT, PHANTOM, TABLE, NOTHING}) {
            Edge.badArgument("holder " + holder, SORTS, heap -> heap.store(holder, 0, ROW));
        }
    }

    static void promise17SlotsAreLookedAtFirst() {
        Edge.noIndex("holder 8, place -1", SORTS, heap -> heap.store(8, -1, 0));
        Edge.noIndex("from 8, holder holds nothing", SORTS, heap -> heap.store(NOTHING, 0, 8));
        Edge.noIndex("from -1, no such place", SORTS, heap -> heap.store(ROW, 4, -1));
    }

    static void promise17NothingIsStored() {
        RuntimeHeap heap = Edge.behind(SORTS);
        Check.same("in a field that holds nothing", heap.store(PLAIN, 1, TEXT), -1);
        Check.same("nothing in its stead", heap.store(PLAIN, 1, NOTHING), 2);
        Check.same("nothing once more", heap.store(PLAIN, 1, NOTHING), -1);
        Check.same("what it holds then", heap.load(7, PLAIN, 1), -1);
    }

    static void promise17TheHolderIsStoredInItself() {
        RuntimeHeap heap = Edge.behind(SORTS);
        Check.same("store", heap.store(ROW, 0, ROW), -1);
        Check.same("what it held", heap.store(ROW, 0, ROW), 1);
        Check.same("load", heap.load(7, ROW, 0), 1);
    }

    static void promise17EachFormCanBeHeld() {
        for (int from = PLAIN; from <= TABLE; from++) {
            int stored = from;
            Edge.answers("form " + from, from, Edge.both(SORTS, heap -> heap.store(ROW, 3, stored)),
                heap -> heap.load(7, ROW, 3));
        }
    }

    static void promise17OnlyThisFieldChanges() {
        RuntimeHeap heap = Edge.behind(FieldsEdgesTest::widest);
        heap.setNumber(0, 0, 77);
        heap.store(0, 7, 2);
        Check.same("number field 0, behind it", heap.getNumber(0, 0), 77);
        Check.same("the field ahead of it", heap.load(6, 0, 6), -1);
        heap.store(1, 39, 2);
        Check.same("the first byte of the next object", heap.getByte(2, 0), 0);
    }

    // ---- promise 18

    static void promise18HolderIsASlot() {
        Edge.slot("getNumber", FieldsEdgesTest::kind, FieldsEdgesTest::putObject,
            (heap, holder) -> heap.getNumber(holder, 0));
    }

    static void promise18FieldIsOneOfTheHolder() {
        Edge.range(ARGUMENT, "field of 3", 0, 2, SORTS, (heap, field) -> heap.getNumber(PLAIN, field));
        Edge.range(ARGUMENT, "field of 8", 0, 7, FieldsEdgesTest::widest, (heap, field) -> heap.getNumber(0, field));
        Edge.badArgument("field 0 of none", FieldsEdgesTest::widest, heap -> heap.getNumber(3, 0));
    }

    static void promise18HolderIsNoPlain() {
        for (int holder : new int[] {ROW, TEXT, WEAK, SOFT, PHANTOM, TABLE, NOTHING}) {
            Edge.badArgument("holder " + holder, SORTS, heap -> heap.getNumber(holder, 0));
        }
    }

    static void promise18SlotIsLookedAtFirst() {
        Edge.noIndex("holder 8, field -1", SORTS, heap -> heap.getNumber(8, -1));
        Edge.noIndex("holder -1, field 0", SORTS, heap -> heap.getNumber(-1, 0));
    }

    static void promise18ZeroAtFirst() {
        for (int field = 0; field < 8; field++) {
            int asked = field;
            Edge.changesNothing("field " + field, 0, FieldsEdgesTest::widest, heap -> heap.getNumber(0, asked));
        }
    }

    // ---- promise 19

    static void promise19HolderIsASlot() {
        Edge.slot("setNumber", FieldsEdgesTest::kind, FieldsEdgesTest::putObject,
            (heap, holder) -> heap.setNumber(holder, 0, 1));
    }

    static void promise19FieldIsOneOfTheHolder() {
        Edge.range(ARGUMENT, "field of 3", 0, 2, SORTS, (heap, field) -> heap.setNumber(PLAIN, field, 1));
        Edge.range(ARGUMENT, "field of 8", 0, 7, FieldsEdgesTest::widest, (heap, field) -> heap.setNumber(0, field, 1));
        Edge.badArgument("field 0 of none", FieldsEdgesTest::widest, heap -> heap.setNumber(3, 0, 1));
    }

    static void promise19HolderIsNoPlain() {
        for (int holder : new int[] {ROW, TEXT, WEAK, SOFT, PHANTOM, TABLE, NOTHING}) {
            Edge.badArgument("holder " + holder, SORTS, heap -> heap.setNumber(holder, 0, 1));
        }
    }

    static void promise19SlotIsLookedAtFirst() {
        Edge.noIndex("holder 8, field -1", SORTS, heap -> heap.setNumber(8, -1, 1));
        Edge.noIndex("holder -1, field 0", SORTS, heap -> heap.setNumber(-1, 0, 1));
    }

    static void promise19TheLeastAndTheGreatestValue() {
        RuntimeHeap heap = Edge.behind(FieldsEdgesTest::widest);
        Check.same("what it was", heap.setNumber(0, 7, Integer.MIN_VALUE), 0);
        Check.same("the least", heap.getNumber(0, 7), Integer.MIN_VALUE);
        Check.same("what it was", heap.setNumber(0, 7, Integer.MAX_VALUE), Integer.MIN_VALUE);
        Check.same("the greatest", heap.getNumber(0, 7), Integer.MAX_VALUE);
        Check.same("what it was", heap.setNumber(0, 7, -1), Integer.MAX_VALUE);
        Check.same("-1", heap.getNumber(0, 7), -1);
    }

    static void promise19OnlyThisFieldChanges() {
        RuntimeHeap heap = Edge.behind(FieldsEdgesTest::widest);
        heap.setNumber(0, 0, 5);
        Check.same("the reference field ahead of it", heap.load(6, 0, 7), -1);
        Check.same("the number field behind it", heap.getNumber(0, 1), 0);
        heap.setNumber(0, 7, 6);
        Check.same("the first place of the next object", heap.load(6, 1, 0), -1);
        Check.same("the first one", heap.getNumber(0, 0), 5);
    }

    static void promise19ANumberIsNoReference() {
        RuntimeHeap heap = Edge.behind(SORTS);
        heap.setNumber(PLAIN, 0, 1);
        heap.clear(ROW);
        heap.clear(SOFT);
        heap.collectAll(false);
        Check.no("the object with this number", heap.isPresent(1));
    }

    // ---- promise 20

    static void promise20TextIsASlot() {
        Edge.slot("getByte", Edge.NEW, FieldsEdgesTest::putText, (heap, text) -> heap.getByte(text, 0));
    }

    static void promise20PlaceIsOneOfTheText() {
        Edge.range(ARGUMENT, "byte of 5", 0, 4, SORTS, (heap, place) -> heap.getByte(TEXT, place));
        Edge.range(ARGUMENT, "byte of 120", 0, 119, FieldsEdgesTest::widest, (heap, place) -> heap.getByte(2, place));
        Edge.badArgument("byte 0 of none", FieldsEdgesTest::widest, heap -> heap.getByte(5, 0));
    }

    static void promise20TextHoldsNoText() {
        for (int text : new int[] {PLAIN, ROW, WEAK, SOFT, PHANTOM, TABLE, NOTHING}) {
            Edge.badArgument("text " + text, SORTS, heap -> heap.getByte(text, 0));
        }
    }

    static void promise20SlotIsLookedAtFirst() {
        Edge.noIndex("text 8, place -1", SORTS, heap -> heap.getByte(8, -1));
        Edge.noIndex("text -1, place 0", SORTS, heap -> heap.getByte(-1, 0));
    }

    static void promise20AnInternedTextIsReadToo() {
        Edge.changesNothing("its last byte", 255, Edge.both(SORTS, heap -> {
            heap.setByte(TEXT, 4, 255);
            heap.intern(TEXT, TEXT);
        }), heap -> heap.getByte(TEXT, 4));
    }

    // ---- promise 21

    static void promise21TextIsASlot() {
        Edge.slot("setByte", Edge.NEW, FieldsEdgesTest::putText, (heap, text) -> heap.setByte(text, 0, 1));
    }

    static void promise21PlaceIsOneOfTheText() {
        Edge.range(ARGUMENT, "byte of 5", 0, 4, SORTS, (heap, place) -> heap.setByte(TEXT, place, 1));
        Edge.range(ARGUMENT, "byte of 120", 0, 119, FieldsEdgesTest::widest,
            (heap, place) -> heap.setByte(2, place, 1));
        Edge.badArgument("byte 0 of none", FieldsEdgesTest::widest, heap -> heap.setByte(5, 0, 1));
    }

    static void promise21ValueIsZeroToTwoHundredAndFiftyFive() {
        Edge.range(ARGUMENT, "value", 0, 255, SORTS, (heap, value) -> heap.setByte(TEXT, 4, value));
    }

    static void promise21TheLeastAndTheGreatestValue() {
        RuntimeHeap heap = Edge.behind(SORTS);
        Check.same("what it was", heap.setByte(TEXT, 4, 255), 0);
        Check.same("the greatest", heap.getByte(TEXT, 4), 255);
        Check.same("what it was", heap.setByte(TEXT, 4, 0), 255);
        Check.same("the least", heap.getByte(TEXT, 4), 0);
    }

    static void promise21TextHoldsNoText() {
        for (int text : new int[] {PLAIN, ROW, WEAK, SOFT, PHANTOM, TABLE, NOTHING}) {
            Edge.badArgument("text " + text, SORTS, heap -> heap.setByte(text, 0, 1));
        }
    }

    static void promise21SlotIsLookedAtFirst() {
        Edge.noIndex("text 8, value 256", SORTS, heap -> heap.setByte(8, 0, 256));
        Edge.noIndex("text -1, place -1", SORTS, heap -> heap.setByte(-1, -1, 0));
    }

    static void promise21AnInternedTextIsRefused() {
        Edge.Act scene = Edge.both(SORTS, heap -> heap.intern(TEXT, TEXT));
        Edge.badState("another value", scene, heap -> heap.setByte(TEXT, 0, 1));
        Edge.badState("the value that it has", scene, heap -> heap.setByte(TEXT, 4, 0));
    }

    static void promise21PlaceAndValueAreLookedAtAheadOfTheState() {
        Edge.Act scene = Edge.both(SORTS, heap -> heap.intern(TEXT, TEXT));
        Edge.badArgument("INTERNED, place 5", scene, heap -> heap.setByte(TEXT, 5, 0));
        Edge.badArgument("INTERNED, place -1", scene, heap -> heap.setByte(TEXT, -1, 0));
        Edge.badArgument("INTERNED, value 256", scene, heap -> heap.setByte(TEXT, 0, 256));
        Edge.badArgument("INTERNED, value -1", scene, heap -> heap.setByte(TEXT, 0, -1));
    }

    static void promise21ATextLikeAnInternedOneCanBeChanged() {
        RuntimeHeap heap = Edge.behind(SORTS);
        heap.newText(PLAIN, 5);
        heap.intern(PLAIN, PLAIN);
        heap.intern(7, TEXT);
        Check.same("the TEXT itself is not INTERNED", heap.setByte(TEXT, 0, 9), 0);
        Check.same("the INTERNED one stays as it is", heap.getByte(PLAIN, 0), 0);
    }

    static void promise21OnlyThisByteChanges() {
        RuntimeHeap heap = Edge.behind(FieldsEdgesTest::widest);
        heap.setByte(2, 119, 255);
        Check.same("the byte ahead of it", heap.getByte(2, 118), 0);
        heap.setByte(2, 0, 255);
        Check.same("the byte behind it", heap.getByte(2, 1), 0);
        Check.same("the last place of the object ahead", heap.load(6, 1, 39), -1);
    }
}
