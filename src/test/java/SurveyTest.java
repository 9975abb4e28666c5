/** Promises 73 to 84: what would be, and who holds whom. */
final class SurveyTest {
    public static void main(String[] args) {
        Check.runAll(SurveyTest.class);
    }

    /** Slot 0 holds ROW 0, it ROW 1, that ROW 2, that ROW 0; slot 4 holds ROW 3 with ROW 2; nothing holds ROW 4. */
    private static RuntimeHeap withCircle() {
        RuntimeHeap heap = new RuntimeHeap();
        for (int i = 0; i < 5; i++) {
            heap.newRow(i, 2 + i);
        }
        heap.store(0, 1, 1);
        heap.store(1, 0, 2);
        heap.store(2, 3, 0);
        heap.store(3, 4, 2);
        heap.store(4, 0, 4);
        heap.store(4, 1, 0);
        heap.assign(4, 3);
        heap.clear(3);
        heap.clear(2);
        heap.clear(1);
        return heap;
    }

    static void promise73IsPresent() {
        RuntimeHeap heap = withCircle();
        Check.yes("0", heap.isPresent(0));
        Check.yes("not reached, but PRESENT", heap.isPresent(4));
        Check.no("not made", heap.isPresent(5));
        Check.no("-1", heap.isPresent(-1));
        Check.no("far out", heap.isPresent(Integer.MAX_VALUE));
        Check.no("far out", heap.isPresent(Integer.MIN_VALUE));
        heap.collectAll(false);
        Check.no("removed", heap.isPresent(4));
        Check.yes("the other ones stay", heap.isPresent(2));
    }

    static void promise74IsReached() {
        RuntimeHeap heap = withCircle();
        for (int number = 0; number < 4; number++) {
            Check.yes("reached", heap.isReached(number));
        }
        Check.no("nothing holds it", heap.isReached(4));
        Check.no("not made", heap.isReached(5));
        Check.no("-1", heap.isReached(-1));
        heap.newSoft(7, 0, false);
        heap.newWeak(6, 4, false);
        heap.newPhantom(5, 4);
        heap.clear(0);
        heap.clear(4);
        Check.yes("through a SOFT", heap.isReached(1));
        Check.no("not through WEAK or PHANTOM", heap.isReached(3));
        heap.collectAll(false);
        Check.no("removed", heap.isReached(3));
    }

    static void promise74ReachedThroughTables() {
        RuntimeHeap heap = new RuntimeHeap();
        heap.newTable(0, 2);
        heap.newRow(1, 0);
        heap.newRow(2, 0);
        heap.newRow(3, 0);
        heap.put(0, 1, 2);
        heap.put(0, 2, 3);
        heap.clear(2);
        heap.clear(3);
        Check.yes("the value of a reached key", heap.isReached(2));
        Check.yes("a value as key", heap.isReached(3));
        heap.clear(1);
        Check.no("the key", heap.isReached(1));
        Check.no("the value", heap.isReached(2));
    }

    static void promise74ReachedFromAllRoots() {
        RuntimeHeap heap = new RuntimeHeap();
        heap.defineKind(-1, 0, 0, true);
        heap.newRow(7, 0);
        heap.newRow(1, 0);
        heap.toGlobal(0, 1);
        heap.newObject(0, 0);
        heap.newWeak(1, 0, true);
        heap.clear(0);
        heap.collectAll(false);
        heap.clear(1);
        heap.push(1);
        for (int number = 0; number < 4; number++) {
            Check.yes("a slot below, a global, LAST ROW, QUEUE", heap.isReached(number));
            Check.same("distance", heap.distance(number), 0);
        }
        heap.poll(0);
        heap.clear(0);
        heap.takeLast(0);
        heap.clear(0);
        Check.no("taken from the LAST ROW", heap.isReached(2));
        Check.no("taken from the QUEUE", heap.isReached(3));
    }

    static void promise75Distance() {
        RuntimeHeap heap = withCircle();
        Check.same("held by a slot", heap.distance(0), 0);
        Check.same("1", heap.distance(1), 1);
        Check.same("the fewest", heap.distance(2), 1);
        Check.same("held by a slot", heap.distance(3), 0);
        Check.same("not reached", heap.distance(4), -1);
        Check.same("not made", heap.distance(5), -1);
        Check.same("-1", heap.distance(-1), -1);
        heap.clear(4);
        Check.same("now 2", heap.distance(2), 2);
        heap.newSoft(1, 0, false);
        heap.newTable(2, 1);
        heap.put(2, 2, 0);
        heap.clear(0);
        Check.yes("reached", heap.isReached(0));
        Check.same("but not by fields and places", heap.distance(0), -1);
        heap.collectAll(true);
        Check.same("entries", heap.entriesOf(2), 1);
    }

    static void promise75AnewEachTime() {
        RuntimeHeap heap = new RuntimeHeap();
        heap.newRow(0, 1);
        heap.newRow(1, 1);
        heap.newTable(2, 1);
        heap.store(0, 0, 1);
        heap.store(1, 0, 2);
        heap.clear(1);
        heap.clear(2);
        Check.same("a ROW", heap.distance(1), 1);
        Check.same("a TABLE", heap.distance(2), 2);
        heap.load(5, 0, 0);
        Check.same("a ROW", heap.distance(1), 0);
        Check.same("a TABLE", heap.distance(2), 1);
        heap.clear(5);
        heap.load(0, 0, 0);
        Check.same("a ROW in the first slot", heap.distance(1), 0);
        heap.clear(0);
        Check.same("a ROW", heap.distance(1), -1);
    }

    static void promise75ThroughPlain() {
        RuntimeHeap heap = new RuntimeHeap();
        heap.defineKind(-1, 2, 1, false);
        heap.newObject(0, 0);
        heap.newObject(1, 0);
        heap.setNumber(0, 0, 1);
        heap.store(0, 1, 1);
        heap.clear(1);
        Check.same("through a reference field", heap.distance(1), 1);
        heap.store(0, 1, 7);
        Check.same("a number field holds nothing", heap.distance(1), -1);
    }

    static void promise76WouldRemove() {
        RuntimeHeap heap = withCircle();
        heap.defineKind(-1, 1, 0, true);
        heap.newSoft(7, 0, true);
        heap.newObject(1, 0);
        heap.newRow(2, 0);
        heap.store(1, 0, 2);
        heap.clear(1);
        heap.clear(2);
        long before = heap.digest();
        Check.same("a FINAL one, and what it holds, would stay", heap.wouldRemove(false), 1);
        heap.clear(0);
        heap.clear(4);
        Check.same("the SOFT holds", heap.wouldRemove(false), 2);
        Check.same("not PRESSED", heap.wouldRemove(true), 5);
        Check.same("nothing is changed", heap.lasts() + heap.queued() + heap.fullCollections(), 0);
        Check.no("cleared", heap.isCleared(7));
        heap.beginMarking();
        heap.newRow(5, 0);
        heap.clear(5);
        Check.same("one like the others", heap.wouldRemove(true), 6);
        heap.clear(7);
        Check.same("not as at the end of marking", heap.wouldRemove(false), 7);
        Check.yes("another digest", heap.digest() != before);
        heap.step(50);
        Check.same("the SOFT, its three ROWs and the NEW one", heap.wouldRemove(false), 5);
        Check.same("as it is done", heap.collectAll(false), 5);
    }

    static void promise77Retained() {
        RuntimeHeap heap = withCircle();
        Check.same("it and ROW 1", heap.retained(0), 4 + 5);
        Check.same("it alone", heap.retained(4), 7);
        heap.clear(4);
        Check.same("all", heap.retained(0), 4 + 5 + 6);
        heap.newSoft(1, 0, false);
        Check.same("a SOFT retains itself", heap.retained(1), 3);
        heap.clear(0);
        Check.same("and its referent", heap.retained(1), 3 + 15);
        Check.noIndex(heap, "slot 8", () -> heap.retained(8));
        Check.noIndex(heap, "slot -1", () -> heap.retained(-1));
        Check.badArgument(heap, "nothing", () -> heap.retained(7));
    }

    static void promise77RetainedByAKey() {
        RuntimeHeap heap = new RuntimeHeap();
        heap.newTable(0, 1);
        heap.newRow(1, 4);
        heap.newRow(2, 5);
        heap.put(0, 1, 2);
        heap.clear(2);
        Check.same("a key, with its value", heap.retained(1), 6 + 7);
        Check.same("a TABLE, with its value", heap.retained(0), 4 + 7);
        heap.toGlobal(0, 0);
        Check.same("two hold it", heap.retained(0), 11);
        Check.same("a key in two frames", heap.push(2), 2);
        heap.newRow(0, 0);
        Check.same("the top frame", heap.retained(0), 2);
    }

    static void promise78Heaviest() {
        RuntimeHeap heap = new RuntimeHeap();
        Check.same("none", heap.heaviest(), -1);
        heap.newRow(0, 1);
        heap.newRow(1, 1);
        Check.same("the smallest number of two", heap.heaviest(), 0);
        heap.newRow(2, 9);
        heap.clear(2);
        Check.same("only reached ones", heap.heaviest(), 0);
        heap.newRow(2, 0);
        heap.store(1, 0, 2);
        heap.clear(2);
        Check.same("with what it holds", heap.heaviest(), 1);
        heap.newRow(3, 2);
        heap.store(0, 0, 3);
        heap.store(1, 0, 3);
        heap.clear(3);
        Check.same("held by two", heap.heaviest(), 4);
        Check.same("nothing is changed", heap.numberOf(1), 1);
        RuntimeHeap circle = withCircle();
        Check.same("a circle", circle.heaviest(), 0);
        circle.clear(0);
        Check.same("from the other side", circle.heaviest(), 3);
    }

    static void promise79OnCircle() {
        RuntimeHeap heap = withCircle();
        Check.yes("a circle of three", heap.onCircle(0));
        Check.no("leads to a circle", heap.onCircle(4));
        heap.newRow(1, 2);
        Check.no("holds nothing", heap.onCircle(1));
        heap.store(1, 1, 1);
        Check.yes("holds itself", heap.onCircle(1));
        heap.store(1, 0, 1);
        heap.store(1, 1, 7);
        Check.yes("holds itself at the first place", heap.onCircle(1));
        heap.newRow(1, 2);
        heap.newSoft(2, 1, false);
        heap.store(1, 0, 2);
        Check.no("not through a SOFT", heap.onCircle(1));
        Check.no("a SOFT", heap.onCircle(2));
        heap.newTable(3, 1);
        heap.put(3, 3, 3);
        Check.no("not through a TABLE", heap.onCircle(3));
        Check.noIndex(heap, "slot 8", () -> heap.onCircle(8));
        Check.noIndex(heap, "slot -1", () -> heap.onCircle(-1));
        Check.badArgument(heap, "nothing", () -> heap.onCircle(7));
    }

    static void promise80Referrers() {
        RuntimeHeap heap = withCircle();
        heap.defineKind(-1, 2, 2, false);
        Check.same("ROW 2 and, not reached, ROW 4", heap.referrers(0), 2);
        Check.same("none", heap.referrers(4), 0);
        heap.newObject(1, 0);
        heap.store(1, 0, 4);
        heap.store(1, 1, 4);
        heap.store(4, 0, 4);
        Check.same("each field, itself as well", heap.referrers(4), 3);
        heap.newWeak(2, 4, false);
        heap.newSoft(2, 4, false);
        heap.newTable(3, 1);
        heap.put(3, 4, 4);
        Check.same("no reference, no TABLE", heap.referrers(4), 3);
        heap.collectAll(false);
        Check.same("PRESENT ones", heap.referrers(0), 1);
        Check.noIndex(heap, "slot 8", () -> heap.referrers(8));
        Check.noIndex(heap, "slot -1", () -> heap.referrers(-1));
        Check.badArgument(heap, "nothing", () -> heap.referrers(7));
    }

    static void promise80TheFirstObjectCounts() {
        RuntimeHeap heap = new RuntimeHeap();
        heap.newRow(0, 2);
        heap.newRow(1, 0);
        heap.store(0, 0, 1);
        Check.same("referrers", heap.referrers(1), 1);
    }

    static void promise80NumbersAreNoReferrers() {
        RuntimeHeap heap = new RuntimeHeap();
        heap.defineKind(-1, 0, 2, false);
        heap.newObject(0, 0);
        heap.newText(1, 4);
        Check.same("numbers and bytes", heap.referrers(0), 0);
        Check.same("nor for the other one", heap.referrers(1), 0);
    }

    static void promise81SameShape() {
        RuntimeHeap heap = new RuntimeHeap();
        heap.defineKind(-1, 1, 1, false);
        heap.defineKind(-1, 1, 1, false);
        heap.newObject(0, 0);
        heap.newObject(1, 0);
        Check.yes("itself", heap.sameShape(0, 0));
        Check.yes("alike", heap.sameShape(0, 1));
        heap.newObject(2, 1);
        Check.no("another kind", heap.sameShape(0, 2));
        heap.setNumber(1, 0, 1);
        Check.no("another number", heap.sameShape(0, 1));
        heap.setNumber(1, 0, 0);
        heap.store(0, 0, 0);
        Check.no("nothing there", heap.sameShape(0, 1));
        Check.no("nothing here", heap.sameShape(1, 0));
        heap.store(1, 0, 1);
        Check.yes("two circles", heap.sameShape(0, 1));
        heap.store(1, 0, 0);
        Check.no("0 would have two partners", heap.sameShape(1, 0));
        heap.newRow(3, 1);
        heap.newRow(4, 2);
        Check.no("other lengths", heap.sameShape(3, 4));
        Check.no("other forms", heap.sameShape(3, 0));
        Check.noIndex(heap, "one", () -> heap.sameShape(8, 7));
        Check.noIndex(heap, "other", () -> heap.sameShape(7, -1));
        Check.badArgument(heap, "one holds nothing", () -> heap.sameShape(7, 0));
        Check.badArgument(heap, "other holds nothing", () -> heap.sameShape(0, 7));
    }

    static void promise81TextsAndReferences() {
        RuntimeHeap heap = new RuntimeHeap();
        heap.newText(0, 2);
        heap.newText(1, 2);
        Check.yes("alike TEXTs", heap.sameShape(0, 1));
        heap.intern(0, 0);
        Check.yes("INTERNED or not", heap.sameShape(0, 1));
        heap.setByte(1, 1, 1);
        Check.no("another byte", heap.sameShape(0, 1));
        heap.newText(1, 3);
        Check.no("another length", heap.sameShape(0, 1));
        heap.newWeak(2, 0, false);
        heap.newWeak(3, 0, false);
        heap.newTable(4, 1);
        heap.newTable(5, 1);
        Check.yes("the same WEAK", heap.sameShape(2, 2));
        Check.no("another WEAK", heap.sameShape(2, 3));
        Check.yes("the same TABLE", heap.sameShape(4, 4));
        Check.no("another TABLE", heap.sameShape(4, 5));
        heap.newRow(0, 2);
        heap.newRow(1, 2);
        heap.store(0, 0, 2);
        heap.store(1, 0, 2);
        Check.yes("both hold the same WEAK", heap.sameShape(0, 1));
        heap.store(1, 0, 7);
        Check.no("one holds nothing", heap.sameShape(0, 1));
        Check.no("one holds nothing", heap.sameShape(1, 0));
        heap.store(1, 0, 3);
        Check.no("they hold two", heap.sameShape(0, 1));
    }

    static void promise81NoObjectInTwoPairs() {
        RuntimeHeap heap = new RuntimeHeap();
        heap.newRow(0, 2);
        heap.newRow(1, 2);
        heap.newText(2, 1);
        heap.newText(3, 1);
        heap.store(0, 0, 2);
        heap.store(0, 1, 2);
        heap.store(1, 0, 2);
        heap.store(1, 1, 3);
        Check.no("the first one in two pairs", heap.sameShape(0, 1));
        Check.no("the second one in two pairs", heap.sameShape(1, 0));
        heap.store(0, 1, 3);
        Check.yes("one to one", heap.sameShape(0, 1));
        heap.store(0, 0, 3);
        heap.store(0, 1, 2);
        Check.yes("one to one, crosswise", heap.sameShape(0, 1));
    }

    static void promise82Flaws() {
        RuntimeHeap heap = withCircle();
        Check.same("flaws", heap.flaws(), 0);
        heap.collectAll(true);
        Check.same("flaws", heap.flaws(), 0);
        Check.same("flaws", new RuntimeHeap().flaws(), 0);
    }

    static void promise83MeanWords() {
        RuntimeHeap heap = new RuntimeHeap();
        Check.same("none", heap.meanWords(), 0.0);
        heap.newRow(0, 1);
        heap.newRow(0, 2);
        Check.same("not cut", heap.meanWords(), 3.5);
        heap.newRow(0, 40);
        Check.same("OLD ones as well", heap.meanWords(), 49.0 / 3);
        heap.collectAll(false);
        Check.same("PRESENT ones", heap.meanWords(), 42.0);
    }

    static void promise84Digest() {
        long empty = 58002;
        long[] memory = {1, 8, 0, 0, 0, 0, 0, 0, 0, 0, 0, 0, 0, 0, 2, 0, 0};
        for (long x : memory) {
            empty = empty * 31 + x;
        }
        for (int slot = 0; slot < 8; slot++) {
            for (long x : new long[] {-1, -1, -1, -1, 0, -1, 0, 0, 0, 0, -1}) {
                empty = empty * 31 + x;
            }
        }
        for (int global = 0; global < 8; global++) {
            empty = empty * 31 - 1;
        }
        Check.same("of an empty one", new RuntimeHeap().digest(), empty * 31);
    }

    static void promise84DigestOfMore() {
        RuntimeHeap heap = withCircle();
        heap.newText(1, 3);
        heap.intern(1, 1);
        heap.writeImage(1);
        heap.newSoft(2, 1, true);
        heap.forget(2);
        heap.newTable(3, 3);
        heap.put(3, 3, 3);
        heap.toGlobal(2, 3);
        heap.collectYoung();
        heap.newRow(0, 31);
        heap.defineKind(-1, 0, 0, true);
        heap.newObject(4, 0);
        heap.clear(4);
        heap.collectAll(false);
        heap.takeLast(4);
        heap.newRow(5, 3);
        heap.newSoft(6, 5, true);
        heap.newRow(5, 1);
        heap.newRow(5, 1);
        heap.beginMarking();
        long digest = heap.digest();
        Check.yes("a SOFT makes a difference", heap.wouldRemove(false) != heap.wouldRemove(true));
        long d = 58002;
        long[] memory = {heap.frames(), heap.slots(), heap.kinds(), heap.objects(), heap.youngObjects(),
            heap.youngWords(), heap.oldWords(), heap.made(), heap.queued(), heap.lasts(), heap.interned(),
            heap.youngCollections(), heap.fullCollections(), 1, heap.tenure(), heap.wouldRemove(false),
            heap.wouldRemove(true)};
        for (long x : memory) {
            d = d * 31 + x;
        }
        for (int slot = 0; slot < 8; slot++) {
            long[] asked = {heap.numberOf(slot), heap.formOf(slot), heap.kindOf(slot), heap.lengthOf(slot),
                heap.wordsOf(slot), heap.ageOf(slot), heap.isOld(slot) ? 1 : 0, heap.isFinalized(slot) ? 1 : 0,
                heap.isInterned(slot) ? 1 : 0, heap.isCleared(slot) ? 1 : 0, heap.entriesOf(slot)};
            for (long x : asked) {
                d = d * 31 + x;
            }
        }
        for (int global = 0; global < 8; global++) {
            d = d * 31 + heap.globalNumber(global);
        }
        for (int number = 0; number < heap.made(); number++) {
            if (heap.isPresent(number)) {
                d = d * 31 + number;
                d = d * 31 + (heap.isReached(number) ? 1 : 0);
                d = d * 31 + heap.distance(number);
            }
        }
        d = d * 31 + heap.imageLength();
        for (int place = 0; place < heap.imageLength(); place++) {
            d = d * 31 + heap.imageAt(place);
        }
        Check.same("digest", digest, d);
    }
}
