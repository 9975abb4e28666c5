/** Boundary cases of the promises 73 to 84: what would be, and who holds whom. */
final class SurveyEdgesTest {
    public static void main(String[] args) {
        Check.runAll(SurveyEdgesTest.class);
    }

    private static void putRow(RuntimeHeap heap, int slot) {
        heap.newRow(slot, 1);
    }

    private static void clearAll(RuntimeHeap heap) {
        for (int slot = 0; slot < heap.slots(); slot++) {
            heap.clear(slot);
        }
    }

    /** A ROW of 2 places in slot 0 that holds a TEXT in its place 1, which holds nothing else; neither in slot 1 on. */
    private static void rowOfText(RuntimeHeap heap) {
        heap.newRow(0, 2);
        heap.newText(1, 0);
        heap.store(0, 1, 1);
        heap.clear(1);
    }

    /** The numbers 0 PLAIN, 1 TEXT by a SOFT 2, 3 TEXT by a WEAK 4, 5 TABLE with the key 0 and the value 6. */
    private static void byOtherWays(RuntimeHeap heap) {
        heap.defineKind(-1, 0, 0, false);
        heap.newObject(0, 0);
        heap.newText(1, 0);
        heap.newSoft(2, 1, false);
        heap.newText(3, 0);
        heap.newWeak(4, 3, false);
        heap.newTable(5, 1);
        heap.newText(6, 0);
        heap.put(5, 0, 6);
        heap.clear(1);
        heap.clear(3);
        heap.clear(6);
    }

    // ---- promise 73

    static void promise73AnyNumberMayBeAsked() {
        Edge.Act scene = SurveyEdgesTest::rowOfText;
        int[] numbers = {Integer.MIN_VALUE, -2, -1, 0, 1, 2, 208, Integer.MAX_VALUE};
        for (int number : numbers) {
            boolean due = number == 0 || number == 1;
            Edge.changesNothing("number " + number, due, scene, heap -> heap.isPresent(number));
            Edge.changesNothing("of none " + number, false, Edge.NEW, heap -> heap.isPresent(number));
        }
    }

    static void promise73UntilItIsRemoved() {
        RuntimeHeap heap = Edge.behind(SurveyEdgesTest::rowOfText);
        heap.clear(0);
        Check.yes("not reached", heap.isPresent(1));
        heap.collectAll(false);
        Check.no("removed", heap.isPresent(1));
        heap.newText(0, 0);
        Check.no("its number is not given again", heap.isPresent(1));
        Check.yes("the next one", heap.isPresent(2));
    }

    static void promise73OfAsManyAsThereCanBe() {
        RuntimeHeap heap = Edge.behind(Fill::mostObjects);
        Check.yes("the last of 208", heap.isPresent(heap.made() - 1));
        Check.yes("the first of 208", heap.isPresent(heap.made() - 208));
        Check.no("one ahead", heap.isPresent(heap.made() - 209));
        Check.no("one behind", heap.isPresent(heap.made()));
    }

    // ---- promise 74

    static void promise74AnyNumberMayBeAsked() {
        Edge.Act scene = SurveyEdgesTest::rowOfText;
        int[] numbers = {Integer.MIN_VALUE, -2, -1, 0, 1, 2, 208, Integer.MAX_VALUE};
        for (int number : numbers) {
            boolean due = number == 0 || number == 1;
            Edge.changesNothing("number " + number, due, scene, heap -> heap.isReached(number));
            Edge.changesNothing("of none " + number, false, Edge.NEW, heap -> heap.isReached(number));
        }
    }

    static void promise74PresentButNotReachedAndRemoved() {
        Edge.Act scene = Edge.both(SurveyEdgesTest::rowOfText, heap -> heap.clear(0));
        Edge.changesNothing("not reached", false, scene, heap -> heap.isReached(1));
        Edge.changesNothing("removed", false, Edge.both(scene, RuntimeHeap::collectYoung), heap -> heap.isReached(1));
    }

    static void promise74BySoftAndTableNotByWeak() {
        boolean[] due = {true, true, true, false, true, true, true};
        for (int number = 0; number < 7; number++) {
            int asked = number;
            Edge.changesNothing("number " + number, due[number], SurveyEdgesTest::byOtherWays,
                heap -> heap.isReached(asked));
        }
    }

    static void promise74NowAlsoWhileMarkingIsOn() {
        RuntimeHeap heap = Edge.behind(SurveyEdgesTest::rowOfText);
        heap.beginMarking();
        Check.yes("the PICTURE's", heap.isReached(1));
        heap.clear(0);
        Check.no("what is TO KEEP is not reached now", heap.isReached(1));
        Check.same("nor is there a way to it", heap.distance(1), -1);
        heap.newRow(0, 0);
        Check.yes("a NEW one", heap.isReached(2));
        heap.clear(0);
        Check.no("a NEW one that is not reached", heap.isReached(2));
    }

    static void promise74ByItsNumberAlsoWithGaps() {
        RuntimeHeap heap = new RuntimeHeap();
        for (int i = 0; i < 4; i++) {
            heap.newRow(0, 0);
        }
        heap.collectAll(false);
        heap.newRow(1, 0);
        heap.newRow(1, 0);
        boolean[] due = {false, false, false, true, false, true, false};
        for (int number = 0; number < due.length; number++) {
            Check.same("number " + number, heap.isReached(number) ? 1 : 0, due[number] ? 1 : 0);
        }
    }

    static void promise74NotByAPhantom() {
        RuntimeHeap heap = new RuntimeHeap();
        heap.newRow(0, 0);
        heap.newPhantom(0, 0);
        Check.no("its referent", heap.isReached(0));
    }

    static void promise74AValueNeedsTableAndKey() {
        RuntimeHeap heap = Edge.behind(SurveyEdgesTest::byOtherWays);
        heap.clear(0);
        Check.no("the TABLE does not hold the key", heap.isReached(0));
        Check.no("nor then the value", heap.isReached(6));
        heap = Edge.behind(SurveyEdgesTest::byOtherWays);
        heap.clear(5);
        Check.yes("the key", heap.isReached(0));
        Check.no("without the TABLE the value", heap.isReached(6));
    }

    // ---- promise 75

    static void promise75AnyNumberMayBeAsked() {
        Edge.Act scene = SurveyEdgesTest::rowOfText;
        int[] numbers = {Integer.MIN_VALUE, -2, -1, 0, 1, 2, 208, Integer.MAX_VALUE};
        int[] due = {-1, -1, -1, 0, 1, -1, -1, -1};
        for (int i = 0; i < numbers.length; i++) {
            int number = numbers[i];
            Edge.changesNothing("number " + number, due[i], scene, heap -> heap.distance(number));
            Edge.changesNothing("of none " + number, -1, Edge.NEW, heap -> heap.distance(number));
        }
    }

    static void promise75ZeroForWhatAnyRootHolds() {
        RuntimeHeap heap = new RuntimeHeap();
        heap.defineKind(-1, 0, 0, true);
        heap.newObject(0, 0);
        heap.clear(0);
        heap.newText(0, 0);
        heap.newPhantom(1, 0);
        heap.clear(0);
        heap.collectAll(false);
        heap.clear(1);
        heap.newRow(7, 0);
        heap.newRow(6, 0);
        heap.toGlobal(7, 6);
        heap.clear(6);
        heap.push(1);
        Check.same("the LAST ROW", heap.distance(0), 0);
        Check.same("the QUEUE", heap.distance(2), 0);
        Check.same("a lower frame", heap.distance(3), 0);
        Check.same("a global", heap.distance(4), 0);
    }

    static void promise75OnlyFieldsAndPlacesCount() {
        int[] due = {0, -1, 0, -1, 0, 0, -1};
        for (int number = 0; number < 7; number++) {
            int asked = number;
            Edge.changesNothing("number " + number, due[number], SurveyEdgesTest::byOtherWays,
                heap -> heap.distance(asked));
        }
    }

    static void promise75TheFewestOfSeveralWays() {
        RuntimeHeap heap = new RuntimeHeap();
        heap.newRow(0, 2);
        heap.newRow(1, 2);
        heap.newRow(2, 2);
        heap.newText(3, 0);
        heap.store(0, 0, 1);
        heap.store(1, 0, 2);
        heap.store(2, 0, 3);
        heap.store(2, 1, 0);
        for (int slot = 1; slot <= 3; slot++) {
            heap.clear(slot);
        }
        Check.same("three steps", heap.distance(3), 3);
        heap.load(4, 0, 0);
        heap.load(5, 4, 0);
        heap.load(5, 5, 0);
        heap.store(4, 1, 5);
        clearFrom(heap, 4);
        Check.same("two steps", heap.distance(3), 2);
        heap.load(4, 0, 0);
        heap.load(4, 4, 1);
        heap.store(0, 1, 4);
        clearFrom(heap, 4);
        Check.same("one step", heap.distance(3), 1);
        heap.load(4, 0, 1);
        Check.same("none", heap.distance(3), 0);
        Check.same("a circle back to a held one", heap.distance(0), 0);
    }

    private static void clearFrom(RuntimeHeap heap, int first) {
        for (int slot = first; slot < 8; slot++) {
            heap.clear(slot);
        }
    }

    static void promise75OfWhatARootHoldsNowThoughItWasFarther() {
        RuntimeHeap heap = Edge.behind(SurveyEdgesTest::rowOfText);
        heap.load(1, 0, 1);
        heap.clear(1);
        Check.same("one step", heap.distance(1), 1);
        heap.load(0, 0, 1);
        Check.same("the first slot holds it", heap.distance(1), 0);
        Check.same("and nothing leads to the ROW", heap.distance(0), -1);
    }

    static void promise75TheLongestWay() {
        RuntimeHeap heap = new RuntimeHeap();
        heap.newRow(0, 1);
        for (int i = 1; i < 138; i++) {
            heap.newRow(1, 1);
            heap.store(1, 0, 0);
            heap.assign(0, 1);
        }
        heap.clear(1);
        Check.same("objects", heap.objects(), 138);
        Check.same("from the last to the first one", heap.distance(0), 137);
        Check.same("the last one", heap.distance(137), 0);
        heap.clear(0);
        Check.same("not reached", heap.distance(0), -1);
    }

    // ---- promise 76

    static void promise76NoneAndAll() {
        for (boolean isPressed : new boolean[] {false, true}) {
            Edge.changesNothing("an empty memory", 0, Edge.NEW, heap -> heap.wouldRemove(isPressed));
            Edge.changesNothing("none", 0, SurveyEdgesTest::rowOfText, heap -> heap.wouldRemove(isPressed));
            Edge.changesNothing("all", 2, Edge.both(SurveyEdgesTest::rowOfText, heap -> heap.clear(0)),
                heap -> heap.wouldRemove(isPressed));
        }
    }

    static void promise76PressedDoesNotReachBySoft() {
        Edge.Act scene = SurveyEdgesTest::byOtherWays;
        Edge.changesNothing("not PRESSED: by the WEAK", 1, scene, heap -> heap.wouldRemove(false));
        Edge.changesNothing("PRESSED: by the SOFT too", 2, scene, heap -> heap.wouldRemove(true));
    }

    static void promise76FinalOnesAreKeptTheFirstTime() {
        Edge.Act scene = heap -> {
            heap.defineKind(-1, 1, 0, true);
            heap.newObject(0, 0);
            heap.newText(1, 0);
            heap.store(0, 0, 1);
            heap.clear(0);
            heap.clear(1);
        };
        Edge.changesNothing("the first time", 0, scene, heap -> heap.wouldRemove(false));
        Edge.changesNothing("the second time", 2, Edge.both(scene, heap -> {
            heap.collectAll(false);
            heap.takeLast(0);
            heap.clear(0);
        }), heap -> heap.wouldRemove(false));
    }

    static void promise76WhatFinalOnesReachBySoftIsKeptIfItIsNotPressed() {
        Edge.Act scene = heap -> {
            heap.defineKind(-1, 1, 0, true);
            heap.newObject(0, 0);
            heap.newText(1, 0);
            heap.newSoft(1, 1, false);
            heap.store(0, 0, 1);
            clearAll(heap);
        };
        Edge.changesNothing("not PRESSED", 0, scene, heap -> heap.wouldRemove(false));
        Edge.changesNothing("PRESSED", 1, scene, heap -> heap.wouldRemove(true));
        Edge.answers("not PRESSED, done", 0, scene, heap -> heap.collectAll(false));
        Edge.answers("PRESSED, done", 1, scene, heap -> heap.collectAll(true));
    }

    static void promise76WhileMarkingIsOnOneLikeTheOthers() {
        Edge.Act scene = heap -> {
            rowOfText(heap);
            heap.beginMarking();
            heap.newText(1, 0);
            clearAll(heap);
        };
        Edge.changesNothing("what is TO KEEP and what is NEW", 3, scene, heap -> heap.wouldRemove(false));
        Edge.changesNothing("PRESSED", 3, scene, heap -> heap.wouldRemove(true));
        Edge.answers("though the end of marking removes none", 3, Edge.both(scene, heap -> heap.step(50)),
            RuntimeHeap::objects);
    }

    static void promise76AsManyAsAreRemovedThen() {
        for (boolean isPressed : new boolean[] {false, true}) {
            RuntimeHeap heap = Edge.behind(SurveyEdgesTest::byOtherWays);
            heap.clear(5);
            int due = heap.wouldRemove(isPressed);
            Check.same("collectAll", heap.collectAll(isPressed), due);
        }
    }

    static void promise76OfAsManyAsThereCanBe() {
        Edge.changesNothing("206 of 208", 206, Fill::mostObjects, heap -> heap.wouldRemove(false));
        Edge.answers("206 of 208 are removed", 206, Fill::mostObjects, heap -> heap.collectAll(false));
        Edge.answers("also instead of a young collection", 206, Fill::mostObjects, RuntimeHeap::collectYoung);
    }

    // ---- promise 77

    static void promise77SlotIsASlot() {
        Edge.slot("retained", Edge.NEW, SurveyEdgesTest::putRow, RuntimeHeap::retained);
    }

    static void promise77NothingIsRefused() {
        Edge.badArgument("an empty slot", SurveyEdgesTest::rowOfText, heap -> heap.retained(1));
        Edge.noIndex("slot 8", SurveyEdgesTest::rowOfText, heap -> heap.retained(8));
    }

    static void promise77ItsOwnWordsAtLeast() {
        Edge.changesNothing("2 words", 2, heap -> heap.newRow(0, 0), heap -> heap.retained(0));
        Edge.changesNothing("42 words", 42, heap -> heap.newRow(0, 40), heap -> heap.retained(0));
    }

    static void promise77WhatIsReachedInNoOtherWay() {
        Edge.Act scene = SurveyEdgesTest::rowOfText;
        Edge.changesNothing("ROW and TEXT", 6, scene, heap -> heap.retained(0));
        Edge.changesNothing("the TEXT is held by a slot", 4, Edge.both(scene, heap -> heap.load(1, 0, 1)),
            heap -> heap.retained(0));
        Edge.changesNothing("by a global", 4, Edge.both(scene, heap -> {
            heap.load(1, 0, 1);
            heap.toGlobal(0, 1);
            heap.clear(1);
        }), heap -> heap.retained(0));
        Edge.changesNothing("of two slots that hold it", 2, Edge.both(scene, heap -> {
            heap.load(1, 0, 1);
            heap.assign(2, 1);
        }), heap -> heap.retained(1));
    }

    static void promise77NotByOneOfTwoHolders() {
        RuntimeHeap heap = Edge.behind(SurveyEdgesTest::rowOfText);
        heap.newRow(1, 1);
        heap.load(2, 0, 1);
        heap.store(1, 0, 2);
        heap.clear(2);
        Check.same("the one", heap.retained(0), 4);
        Check.same("the other", heap.retained(1), 3);
        heap.newRow(2, 2);
        heap.store(2, 0, 0);
        heap.store(2, 1, 1);
        heap.clear(0);
        heap.clear(1);
        Check.same("what holds both", heap.retained(2), 4 + 4 + 3 + 2);
    }

    static void promise77CirclesDoNotHoldThemselves() {
        RuntimeHeap heap = Edge.behind(SurveyEdgesTest::rowOfText);
        heap.newRow(1, 1);
        heap.store(0, 0, 1);
        heap.store(1, 0, 0);
        heap.clear(1);
        Check.same("ROW, ROW and TEXT", heap.retained(0), 4 + 3 + 2);
    }

    static void promise77BySoftNotByWeak() {
        Edge.changesNothing("SOFT", 5, SurveyEdgesTest::byOtherWays, heap -> heap.retained(2));
        Edge.changesNothing("WEAK", 3, SurveyEdgesTest::byOtherWays, heap -> heap.retained(4));
    }

    static void promise77AKeyAndATableBothRetainTheValue() {
        Edge.changesNothing("the key", 2 + 2, SurveyEdgesTest::byOtherWays, heap -> heap.retained(0));
        Edge.changesNothing("the TABLE", 4 + 2, SurveyEdgesTest::byOtherWays, heap -> heap.retained(5));
    }

    static void promise77FinalOnesAreHeldByNothingElse() {
        RuntimeHeap heap = new RuntimeHeap();
        heap.defineKind(-1, 0, 0, true);
        heap.newObject(0, 0);
        Check.same("it would be KEPT, but not reached", heap.retained(0), 2);
    }

    // ---- promise 78

    static void promise78NoneIsReached() {
        Edge.changesNothing("an empty memory", -1, Edge.NEW, RuntimeHeap::heaviest);
        Edge.changesNothing("only what is not reached", -1,
            Edge.both(SurveyEdgesTest::rowOfText, heap -> heap.clear(0)),
            RuntimeHeap::heaviest);
    }

    static void promise78OfSeveralTheSmallestNumber() {
        Edge.changesNothing("three alike", 0, heap -> {
            heap.newRow(2, 3);
            heap.newRow(1, 3);
            heap.newRow(0, 3);
        }, RuntimeHeap::heaviest);
        Edge.changesNothing("the second and the third one", 1, heap -> {
            heap.newRow(0, 2);
            heap.newRow(2, 3);
            heap.newRow(1, 3);
        }, RuntimeHeap::heaviest);
    }

    static void promise78ByOneWord() {
        Edge.changesNothing("the later one has a word more", 1, heap -> {
            heap.newRow(0, 3);
            heap.newRow(1, 4);
        }, RuntimeHeap::heaviest);
    }

    static void promise78ByWhatItRetainsNotByItsOwnWords() {
        Edge.changesNothing("3 words retain 34", 1, heap -> {
            heap.newRow(0, 40);
            heap.newRow(1, 1);
            heap.newRow(2, 38);
            heap.store(1, 0, 2);
            heap.clear(2);
        }, RuntimeHeap::heaviest);
    }

    static void promise78OnlyReachedOnes() {
        Edge.changesNothing("a larger one is not reached", 1, heap -> {
            heap.newRow(0, 40);
            heap.newRow(0, 0);
        }, RuntimeHeap::heaviest);
    }

    static void promise78OfAsManyAsThereCanBe() {
        RuntimeHeap heap = Edge.behind(Fill::mostObjects);
        Check.same("the one with the smaller number", heap.heaviest(), heap.numberOf(0));
        heap.clear(0);
        Check.same("the last of 208", heap.heaviest(), heap.numberOf(1));
    }

    static void promise78OneOfTheQueue() {
        RuntimeHeap heap = new RuntimeHeap();
        heap.newRow(0, 0);
        heap.newPhantom(0, 0);
        heap.collectAll(false);
        heap.clear(0);
        Check.same("the only one", heap.heaviest(), 1);
    }

    // ---- promise 79

    static void promise79SlotIsASlot() {
        Edge.slot("onCircle", Edge.NEW, SurveyEdgesTest::putRow, RuntimeHeap::onCircle);
    }

    static void promise79NothingIsRefused() {
        Edge.badArgument("an empty slot", SurveyEdgesTest::rowOfText, heap -> heap.onCircle(1));
    }

    static void promise79OneStepAtLeast() {
        Edge.changesNothing("none", false, SurveyEdgesTest::rowOfText, heap -> heap.onCircle(0));
        Edge.changesNothing("a TEXT", false, heap -> heap.newText(0, 0), heap -> heap.onCircle(0));
        Edge.changesNothing("itself", true, Edge.both(SurveyEdgesTest::rowOfText, heap -> heap.store(0, 0, 0)),
            heap -> heap.onCircle(0));
    }

    static void promise79OnItNotLeadingToIt() {
        RuntimeHeap heap = new RuntimeHeap();
        heap.newRow(0, 1);
        heap.newRow(1, 1);
        heap.newRow(2, 2);
        heap.newRow(3, 1);
        heap.store(0, 0, 1);
        heap.store(1, 0, 2);
        heap.store(2, 0, 1);
        heap.store(2, 1, 3);
        Check.no("it leads to one", heap.onCircle(0));
        Check.yes("it is on one", heap.onCircle(1));
        Check.yes("so is this", heap.onCircle(2));
        Check.no("one leads to it", heap.onCircle(3));
    }

    static void promise79TheLongestCircle() {
        RuntimeHeap heap = new RuntimeHeap();
        heap.newRow(0, 1);
        heap.assign(2, 0);
        for (int i = 1; i < 138; i++) {
            heap.newRow(1, 1);
            heap.store(1, 0, 0);
            heap.assign(0, 1);
        }
        Check.no("open", heap.onCircle(0));
        heap.store(2, 0, 0);
        Check.yes("closed", heap.onCircle(0));
        Check.yes("closed", heap.onCircle(2));
    }

    static void promise79OnlyFieldsAndPlacesCount() {
        RuntimeHeap heap = new RuntimeHeap();
        heap.newRow(0, 1);
        heap.newSoft(1, 0, false);
        heap.store(0, 0, 1);
        Check.no("by a SOFT", heap.onCircle(0));
        Check.no("the SOFT", heap.onCircle(1));
        heap.newTable(2, 1);
        heap.put(2, 2, 2);
        Check.no("by an entry", heap.onCircle(2));
    }

    // ---- promise 80

    static void promise80SlotIsASlot() {
        Edge.slot("referrers", Edge.NEW, SurveyEdgesTest::putRow, RuntimeHeap::referrers);
    }

    static void promise80NothingIsRefused() {
        Edge.badArgument("an empty slot", SurveyEdgesTest::rowOfText, heap -> heap.referrers(1));
    }

    static void promise80NoneOneAndEachPlaceOfTheSame() {
        Edge.changesNothing("none", 0, SurveyEdgesTest::rowOfText, heap -> heap.referrers(0));
        Edge.changesNothing("one", 1, Edge.both(SurveyEdgesTest::rowOfText, heap -> heap.load(1, 0, 1)),
            heap -> heap.referrers(1));
        Edge.changesNothing("all 40 places of itself", 40, heap -> {
            heap.newRow(0, 40);
            for (int place = 0; place < 40; place++) {
                heap.store(0, place, 0);
            }
        }, heap -> heap.referrers(0));
    }

    static void promise80UnreachedHoldersCountRemovedOnesDoNot() {
        RuntimeHeap heap = Edge.behind(SurveyEdgesTest::rowOfText);
        heap.load(1, 0, 1);
        heap.clear(0);
        Check.same("not reached", heap.referrers(1), 1);
        heap.collectAll(false);
        Check.same("removed", heap.referrers(1), 0);
    }

    static void promise80OnlyFieldsAndPlacesCount() {
        RuntimeHeap heap = new RuntimeHeap();
        heap.newText(0, 0);
        heap.assign(1, 0);
        heap.toGlobal(0, 0);
        heap.newWeak(2, 0, false);
        heap.newSoft(3, 0, false);
        heap.newPhantom(4, 0);
        heap.newTable(5, 1);
        heap.put(5, 0, 0);
        Check.same("slots, globals, references, entries", heap.referrers(0), 0);
    }

    static void promise80NumbersAreNotHolders() {
        RuntimeHeap heap = new RuntimeHeap();
        heap.defineKind(-1, 1, 1, false);
        heap.newObject(0, 0);
        heap.newObject(1, 0);
        heap.setNumber(1, 0, 0);
        heap.store(1, 0, 0);
        Check.same("the reference field only", heap.referrers(0), 1);
    }

    // ---- promise 81

    private static void isAlike(String what, boolean due, Edge.Act scene) {
        Edge.changesNothing(what, due, scene, heap -> heap.sameShape(0, 1));
        Edge.changesNothing(what + ", the other way round", due, scene, heap -> heap.sameShape(1, 0));
    }

    static void promise81OneAndOtherAreSlots() {
        Edge.slot("sameShape: one", Edge.NEW, (heap, slot) -> {
            putRow(heap, slot);
            putRow(heap, 1);
        }, (heap, slot) -> heap.sameShape(slot, 1));
        Edge.slot("sameShape: other", Edge.NEW, (heap, slot) -> {
            putRow(heap, slot);
            putRow(heap, 1);
        }, (heap, slot) -> heap.sameShape(1, slot));
    }

    static void promise81NothingIsRefused() {
        Edge.badArgument("one", SurveyEdgesTest::rowOfText, heap -> heap.sameShape(1, 0));
        Edge.badArgument("other", SurveyEdgesTest::rowOfText, heap -> heap.sameShape(0, 1));
        Edge.badArgument("both", SurveyEdgesTest::rowOfText, heap -> heap.sameShape(1, 2));
        Edge.badArgument("the same, which holds nothing", SurveyEdgesTest::rowOfText, heap -> heap.sameShape(1, 1));
    }

    static void promise81SlotsAreLookedAtFirst() {
        Edge.noIndex("one holds nothing, other 8", SurveyEdgesTest::rowOfText, heap -> heap.sameShape(1, 8));
        Edge.noIndex("one -1, other holds nothing", SurveyEdgesTest::rowOfText, heap -> heap.sameShape(-1, 1));
    }

    static void promise81EveryObjectIsLikeItself() {
        for (int slot = 0; slot < 6; slot++) {
            int asked = slot == 1 || slot == 3 ? 0 : slot;
            Edge.changesNothing("slot " + asked, true, SurveyEdgesTest::byOtherWays,
                heap -> heap.sameShape(asked, asked));
        }
        Edge.changesNothing("a circle", true, Edge.both(SurveyEdgesTest::rowOfText, heap -> heap.store(0, 0, 0)),
            heap -> heap.sameShape(0, 0));
    }

    static void promise81TheLeastOfEachForm() {
        isAlike("rows of no places", true, heap -> {
            heap.newRow(0, 0);
            heap.newRow(1, 0);
        });
        isAlike("texts of no bytes", true, heap -> {
            heap.newText(0, 0);
            heap.newText(1, 0);
        });
        isAlike("a row of no places and a text of no bytes", false, heap -> {
            heap.newRow(0, 0);
            heap.newText(1, 0);
        });
        isAlike("a row of no places and a PLAIN without fields", false, heap -> {
            heap.defineKind(-1, 0, 0, false);
            heap.newRow(0, 0);
            heap.newObject(1, 0);
        });
    }

    static void promise81LengthsDifferByOne() {
        isAlike("rows", false, heap -> {
            heap.newRow(0, 1);
            heap.newRow(1, 0);
        });
        isAlike("texts of zeros", false, heap -> {
            heap.newText(0, 3);
            heap.newText(1, 4);
        });
    }

    static void promise81TheLastByteAndTheLastNumberCount() {
        isAlike("the last of 120 bytes", false, heap -> {
            heap.newText(0, 120);
            heap.newText(1, 120);
            heap.setByte(1, 119, 1);
        });
        Edge.Act objects = heap -> {
            heap.defineKind(-1, 4, 4, false);
            heap.defineKind(0, 4, 4, false);
            heap.newObject(0, 1);
            heap.newObject(1, 1);
        };
        isAlike("all numbers the same", true, objects);
        isAlike("the last of 8 numbers", false, Edge.both(objects, heap -> heap.setNumber(0, 7, -1)));
        isAlike("the first of 8 numbers", false, Edge.both(objects, heap -> heap.setNumber(1, 0, 1)));
    }

    static void promise81KindsCountAlsoIfTheirFieldsAreTheSame() {
        isAlike("a kind and its child", false, heap -> {
            heap.defineKind(-1, 1, 1, false);
            heap.defineKind(0, 0, 0, false);
            heap.newObject(0, 0);
            heap.newObject(1, 1);
        });
    }

    static void promise81InternedOrNotDoesNotCount() {
        isAlike("an INTERNED TEXT and another", true, heap -> {
            heap.newText(0, 2);
            heap.newText(1, 2);
            heap.intern(0, 0);
        });
    }

    static void promise81NothingAgainstSomethingNew() {
        isAlike("the only place", false, heap -> {
            heap.newRow(0, 1);
            heap.newRow(1, 1);
            heap.newText(2, 0);
            heap.store(0, 0, 2);
        });
        isAlike("a PLAIN against nothing", false, heap -> {
            heap.defineKind(-1, 2, 0, false);
            heap.newObject(0, 0);
            heap.newObject(1, 0);
            heap.store(1, 1, 0);
        });
    }

    static void promise81NothingAgainstSomething() {
        Edge.Act rows = heap -> {
            heap.newRow(0, 40);
            heap.newRow(1, 40);
            heap.newText(2, 0);
            heap.store(0, 0, 2);
            heap.store(1, 0, 2);
        };
        isAlike("the same TEXT", true, rows);
        isAlike("in the last place one holds it", false, Edge.both(rows, heap -> heap.store(0, 39, 2)));
        isAlike("in the last place both hold it", true, Edge.both(rows, heap -> {
            heap.store(0, 39, 2);
            heap.store(1, 39, 2);
        }));
    }

    static void promise81ReferencesAndTablesAreOneAndTheSameOnly() {
        Edge.Act row = heap -> heap.newRow(2, 0);
        isAlike("two WEAKs of one object", false, Edge.both(row, heap -> {
            heap.newWeak(0, 2, false);
            heap.newWeak(1, 2, false);
        }));
        isAlike("two SOFTs", false, Edge.both(row, heap -> {
            heap.newSoft(0, 2, false);
            heap.newSoft(1, 2, false);
        }));
        isAlike("two PHANTOMs", false, Edge.both(row, heap -> {
            heap.newPhantom(0, 2);
            heap.newPhantom(1, 2);
        }));
        isAlike("two empty TABLEs", false, heap -> {
            heap.newTable(0, 1);
            heap.newTable(1, 1);
        });
        isAlike("two rows that hold the same TABLE", true, heap -> {
            heap.newRow(0, 1);
            heap.newRow(1, 1);
            heap.newTable(2, 1);
            heap.store(0, 0, 2);
            heap.store(1, 0, 2);
        });
    }

    static void promise81NoObjectIsInTwoPairs() {
        isAlike("one TEXT twice against two TEXTs", false, heap -> {
            heap.newRow(0, 2);
            heap.newRow(1, 2);
            heap.newText(2, 0);
            heap.newText(3, 0);
            heap.store(0, 0, 2);
            heap.store(0, 1, 2);
            heap.store(1, 0, 2);
            heap.store(1, 1, 3);
        });
        isAlike("one twice against another twice", true, heap -> {
            heap.newRow(0, 2);
            heap.newRow(1, 2);
            heap.newText(2, 0);
            heap.newText(3, 0);
            heap.store(0, 0, 2);
            heap.store(0, 1, 2);
            heap.store(1, 0, 3);
            heap.store(1, 1, 3);
        });
        isAlike("the two crossed over", true, heap -> {
            heap.newRow(0, 2);
            heap.newRow(1, 2);
            heap.newText(2, 0);
            heap.newText(3, 0);
            heap.store(0, 0, 2);
            heap.store(0, 1, 3);
            heap.store(1, 0, 3);
            heap.store(1, 1, 2);
        });
    }

    static void promise81CirclesOfOneAndOfTwo() {
        isAlike("itself against two that hold each other", false, heap -> {
            heap.newRow(0, 1);
            heap.store(0, 0, 0);
            heap.newRow(1, 1);
            heap.newRow(2, 1);
            heap.store(1, 0, 2);
            heap.store(2, 0, 1);
        });
        isAlike("two that hold themselves", true, heap -> {
            heap.newRow(0, 1);
            heap.store(0, 0, 0);
            heap.newRow(1, 1);
            heap.store(1, 0, 1);
        });
        isAlike("two that hold each other", true, heap -> {
            heap.newRow(0, 1);
            heap.newRow(1, 1);
            heap.store(0, 0, 1);
            heap.store(1, 0, 0);
        });
        isAlike("one that holds the other, which holds itself", false, heap -> {
            heap.newRow(0, 1);
            heap.newRow(1, 1);
            heap.store(0, 0, 1);
            heap.store(1, 0, 1);
        });
    }

    static void promise81ADifferenceDeepInside() {
        RuntimeHeap heap = new RuntimeHeap();
        for (int slot = 0; slot <= 1; slot++) {
            heap.newText(slot, 1);
            for (int i = 0; i < 60; i++) {
                heap.newRow(2, 1);
                heap.store(2, 0, slot);
                heap.assign(slot, 2);
            }
        }
        Check.yes("two chains of 61", heap.sameShape(0, 1));
        heap.load(3, 1, 0);
        for (int i = 1; i < 60; i++) {
            heap.load(3, 3, 0);
        }
        heap.setByte(3, 0, 1);
        Check.no("the last TEXT differs", heap.sameShape(0, 1));
    }

    // ---- promise 82

    static void promise82AlwaysNone() {
        Edge.changesNothing("an empty memory", 0, Edge.NEW, RuntimeHeap::flaws);
        Edge.changesNothing("a full one", 0, heap -> Fill.words(heap, 320, 96), RuntimeHeap::flaws);
        Edge.changesNothing("behind a call without room", 0, Edge.both(heap -> Fill.words(heap, 320, 96),
            heap -> heap.newRow(0, 40)), RuntimeHeap::flaws);
        Edge.changesNothing("as many objects as there can be", 0, Fill::mostObjects, RuntimeHeap::flaws);
        Edge.changesNothing("while marking is on", 0, Edge.both(SurveyEdgesTest::byOtherWays,
            RuntimeHeap::beginMarking), RuntimeHeap::flaws);
    }

    // ---- promise 83

    static void promise83ZeroWithoutAny() {
        Edge.changesNothing("an empty memory", 0.0, Edge.NEW, RuntimeHeap::meanWords);
        Edge.changesNothing("all removed", 0.0, Edge.both(SurveyEdgesTest::rowOfText, heap -> {
            heap.clear(0);
            heap.collectAll(false);
        }), RuntimeHeap::meanWords);
    }

    static void promise83NotCut() {
        Edge.changesNothing("2 and 3", 2.5, heap -> {
            heap.newRow(0, 0);
            heap.newRow(1, 1);
        }, RuntimeHeap::meanWords);
        Edge.changesNothing("2, 2 and 3", 7.0 / 3.0, heap -> {
            heap.newRow(0, 0);
            heap.newRow(1, 0);
            heap.newRow(2, 1);
        }, RuntimeHeap::meanWords);
        Edge.changesNothing("one", 42.0, heap -> heap.newRow(0, 40), RuntimeHeap::meanWords);
    }

    static void promise83YoungAndOldReachedOrNot() {
        Edge.changesNothing("2 unreached and 42", 22.0, heap -> {
            heap.newRow(0, 0);
            heap.newRow(0, 40);
        }, RuntimeHeap::meanWords);
    }

    // ---- promise 84

    private static long mix(long sum, long... numbers) {
        long mixed = sum;
        for (long number : numbers) {
            mixed = mixed * 31 + number;
        }
        return mixed;
    }

    private static long one(boolean isSo) {
        return isSo ? 1 : 0;
    }

    /** The digest by its words in the document, from the answers of the others. */
    private static long due(RuntimeHeap heap) {
        long sum = mix(58002, heap.frames(), heap.slots(), heap.kinds(), heap.objects(), heap.youngObjects(),
            heap.youngWords(), heap.oldWords(), heap.made(), heap.queued(), heap.lasts(), heap.interned(),
            heap.youngCollections(), heap.fullCollections(), one(heap.isMarking()), heap.tenure(),
            heap.wouldRemove(false), heap.wouldRemove(true));
        for (int slot = 0; slot < heap.slots(); slot++) {
            sum = mix(sum, heap.numberOf(slot), heap.formOf(slot), heap.kindOf(slot), heap.lengthOf(slot),
                heap.wordsOf(slot), heap.ageOf(slot), one(heap.isOld(slot)), one(heap.isFinalized(slot)),
                one(heap.isInterned(slot)), one(heap.isCleared(slot)), heap.entriesOf(slot));
        }
        for (int global = 0; global < 8; global++) {
            sum = mix(sum, heap.globalNumber(global));
        }
        for (int number = 0; number < heap.made(); number++) {
            if (heap.isPresent(number)) {
                sum = mix(sum, number, one(heap.isReached(number)), heap.distance(number));
            }
        }
        sum = mix(sum, heap.imageLength());
        for (int place = 0; place < heap.imageLength(); place++) {
            sum = mix(sum, heap.imageAt(place));
        }
        return sum;
    }

    private static void isDigested(String what, Edge.Act scene) {
        RuntimeHeap heap = Edge.behind(scene);
        long due = due(heap);
        Check.same(what, heap.digest(), due);
        Check.same(what + ", once more", heap.digest(), due);
    }

    static void promise84OfAnEmptyMemoryWithNumbersWrittenOut() {
        long due = mix(58002, 1, 8, 0, 0, 0, 0, 0, 0, 0, 0, 0, 0, 0, 0, 2, 0, 0);
        for (int slot = 0; slot < 8; slot++) {
            due = mix(due, -1, -1, -1, -1, 0, -1, 0, 0, 0, 0, -1);
        }
        due = mix(due, -1, -1, -1, -1, -1, -1, -1, -1, 0);
        Edge.changesNothing("digest", due, Edge.NEW, RuntimeHeap::digest);
        // 31 to the power 17 is far beyond 64 bits: the number has wrapped around.
        isDigested("by the other answers", Edge.NEW);
    }

    static void promise84OnlyTheTopFrame() {
        isDigested("one slot", Edge.both(SurveyEdgesTest::byOtherWays, heap -> heap.push(1)));
        isDigested("8 frames", Edge.both(SurveyEdgesTest::byOtherWays, heap -> {
            while (heap.frames() < 8) {
                heap.push(3);
            }
        }));
    }

    static void promise84EachFormAndUnreachedObjects() {
        isDigested("each form", SurveyEdgesTest::byOtherWays);
        isDigested("unreached ones, with gaps", Edge.both(SurveyEdgesTest::byOtherWays, heap -> {
            heap.collectAll(true);
            heap.clear(5);
            heap.newRow(1, 2);
        }));
    }

    static void promise84WhatCountsOneOrZero() {
        isDigested("marking is on", Edge.both(SurveyEdgesTest::byOtherWays, RuntimeHeap::beginMarking));
        isDigested("OLD, FINALIZED, INTERNED, cleared", heap -> {
            heap.defineKind(-1, 0, 0, true);
            heap.newObject(0, 0);
            heap.clear(0);
            heap.newRow(1, 40);
            heap.newText(2, 1);
            heap.intern(2, 2);
            heap.newWeak(3, 1, true);
            heap.forget(3);
            heap.collectAll(false);
            heap.takeLast(0);
        });
    }

    static void promise84SomethingOfEverything() {
        isDigested("by the other answers", Fill::everything);
        isDigested("behind marking", Edge.both(Fill::everything, heap -> heap.step(50)));
        isDigested("one frame", Edge.both(Fill::everything, heap -> heap.pop(3)));
    }

    static void promise84AnImageOfFourHundredNumbers() {
        isDigested("with negative and large ones", heap -> {
            heap.newRow(0, 31);
            for (int place = 0; place < 3; place++) {
                heap.newText(1, 120);
                heap.store(0, place, 1);
            }
            heap.writeImage(0);
            heap.setImage(0, Integer.MIN_VALUE);
            heap.setImage(200, Integer.MAX_VALUE);
            heap.setImage(399, -1);
        });
    }

    static void promise84AsManyObjectsAsThereCanBe() {
        isDigested("208 objects", Fill::mostObjects);
    }

    static void promise84AFullMemory() {
        isDigested("416 words", heap -> Fill.words(heap, 320, 96));
    }

    // ---- nothing is changed by any of these

    private static String restOfMarking(RuntimeHeap heap) {
        StringBuilder rest = new StringBuilder();
        while (heap.isMarking()) {
            rest.append(heap.step(1)).append(' ').append(heap.objects()).append(' ');
        }
        return rest.append(heap.made()).append(' ').append(heap.queued()).append(' ').append(heap.lasts()).toString();
    }

    private static void changesNothing(String what, Edge.Ask ask) {
        Edge.Act scene = Fill::everything;
        Edge.changesNothing(what, ask.of(Edge.behind(scene)), scene, ask);
        // A Dump asks as well before it lets marking go on, so that is looked at by itself.
        Edge.answers(what + ", then marking", restOfMarking(Edge.behind(scene)),
            Edge.both(scene, heap -> ask.of(heap)), SurveyEdgesTest::restOfMarking);
    }

    static void promise73ChangesNothing() {
        changesNothing("isPresent", heap -> heap.isPresent(3));
        changesNothing("isPresent of none", heap -> heap.isPresent(0));
    }

    static void promise74ChangesNothing() {
        changesNothing("isReached", heap -> heap.isReached(1));
        changesNothing("isReached of none", heap -> heap.isReached(-1));
    }

    static void promise75ChangesNothing() {
        changesNothing("distance", heap -> heap.distance(2));
    }

    static void promise76ChangesNothing() {
        changesNothing("wouldRemove", heap -> heap.wouldRemove(false));
        changesNothing("wouldRemove, PRESSED", heap -> heap.wouldRemove(true));
    }

    static void promise77ChangesNothing() {
        changesNothing("retained", heap -> heap.retained(2));
        changesNothing("retained, of a NEW one", heap -> heap.retained(3));
        changesNothing("retained, of an OLD one", heap -> heap.retained(4));
    }

    static void promise78ChangesNothing() {
        changesNothing("heaviest", RuntimeHeap::heaviest);
    }

    static void promise79ChangesNothing() {
        changesNothing("onCircle", heap -> heap.onCircle(2));
        changesNothing("onCircle, of a NEW one", heap -> heap.onCircle(3));
        changesNothing("onCircle, of an OLD one", heap -> heap.onCircle(4));
    }

    static void promise80ChangesNothing() {
        changesNothing("referrers", heap -> heap.referrers(2));
        changesNothing("referrers, of a NEW one", heap -> heap.referrers(3));
        changesNothing("referrers, of an OLD one", heap -> heap.referrers(4));
    }

    static void promise81ChangesNothing() {
        changesNothing("sameShape", heap -> heap.sameShape(2, 3));
        changesNothing("sameShape of a NEW one", heap -> heap.sameShape(3, 3));
        changesNothing("sameShape of an OLD one", heap -> heap.sameShape(4, 4));
    }

    static void promise82ChangesNothing() {
        changesNothing("flaws", RuntimeHeap::flaws);
    }

    static void promise83ChangesNothing() {
        changesNothing("meanWords", RuntimeHeap::meanWords);
    }

    static void promise84ChangesNothing() {
        changesNothing("digest", RuntimeHeap::digest);
        // A Dump begins with a digest itself.
        Edge.answers("the IMAGE behind it", Edge.behind(Fill::everything).imageLength(),
            Edge.both(Fill::everything, RuntimeHeap::digest), RuntimeHeap::imageLength);
    }
}
