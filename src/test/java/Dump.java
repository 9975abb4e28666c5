/** All that can be learnt of a memory by its face, as a text. The memory is worn out by being asked. */
final class Dump {
    // What these globals held is told by the digest; then they keep what a slot held, while that slot is used.
    private static final int SPARE_GLOBAL = 7;
    private static final int OTHER_SPARE_GLOBAL = 6;

    private final RuntimeHeap heap;
    private final StringBuilder text = new StringBuilder();

    private Dump(RuntimeHeap heap) {
        this.heap = heap;
    }

    static String of(RuntimeHeap heap) {
        Dump dump = new Dump(heap);
        dump.tellMemory();
        dump.tellKinds();
        dump.tellFrame();
        while (heap.frames() > 1) {
            dump.tell("pop", heap.pop(0));
            dump.tellFrame();
        }
        dump.tellMarking();
        dump.tellReferents();
        dump.tellCollections();
        dump.tellRows();
        dump.tellWhoIsQueued();
        return dump.text.toString();
    }

    private void tell(String what, Object answer) {
        text.append(what).append(' ').append(answer).append('\n');
    }

    private void tellMemory() {
        tell("digest", heap.digest());
        tell("flaws", heap.flaws());
        tell("heaviest", heap.heaviest());
        tell("meanWords", heap.meanWords());
        for (int place = 0; place < heap.imageLength(); place++) {
            tell("image", heap.imageAt(place));
        }
    }

    private void tellKinds() {
        for (int kind = 0; kind < heap.kinds(); kind++) {
            tell("references", heap.referencesOf(kind));
            tell("numbers", heap.numbersOf(kind));
            tell("final", heap.isFinal(kind));
            for (int other = 0; other < heap.kinds(); other++) {
                tell("kind of", heap.isKindOf(kind, other));
            }
        }
    }

    private void tellFrame() {
        tell("slots", heap.slots());
        for (int slot = 0; slot < heap.slots(); slot++) {
            if (heap.formOf(slot) >= 0) {
                tell("slot " + slot + " holds", heap.numberOf(slot));
                tellNumbers(slot);
                tellRelations(slot);
                tellNet(slot);
                tellHeld(slot);
            }
        }
    }

    private void tellNumbers(int slot) {
        int numbers = heap.formOf(slot) == 0 ? heap.numbersOf(heap.kindOf(slot)) : 0;
        for (int field = 0; field < numbers; field++) {
            tell("number", heap.getNumber(slot, field));
        }
        int bytes = heap.formOf(slot) == 2 ? heap.lengthOf(slot) : 0;
        for (int place = 0; place < bytes; place++) {
            tell("byte", heap.getByte(slot, place));
        }
    }

    private void tellRelations(int slot) {
        tell("retained", heap.retained(slot));
        tell("onCircle", heap.onCircle(slot));
        tell("referrers", heap.referrers(slot));
        boolean isReference = heap.formOf(slot) >= 3 && heap.formOf(slot) <= 5;
        for (int other = 0; other < heap.slots(); other++) {
            if (isReference) {
                tell("refersTo", heap.refersTo(slot, other));
            }
            if (heap.formOf(other) >= 0) {
                tell("sameShape", heap.sameShape(slot, other));
            }
        }
    }

    private void tellNet(int slot) {
        if (heap.formOf(slot) <= 2) {
            int length = heap.writeImage(slot);
            for (int place = 0; place < length; place++) {
                tell("written", heap.imageAt(place));
            }
        }
    }

    private void tellHeld(int slot) {
        heap.toGlobal(SPARE_GLOBAL, slot);
        int fields = heap.formOf(slot) <= 1 ? heap.lengthOf(slot) : 0;
        for (int place = 0; place < fields; place++) {
            tell("field", heap.load(slot, slot, place));
            heap.fromGlobal(slot, SPARE_GLOBAL);
        }
        for (int key = 0; heap.formOf(slot) == 6 && key < heap.slots(); key++) {
            if (heap.formOf(key) >= 0) {
                tell("value", heap.get(slot, slot, key));
                heap.fromGlobal(slot, SPARE_GLOBAL);
                tellValuesOfHeldKeys(slot, key);
            }
        }
    }

    private void tellValuesOfHeldKeys(int table, int holder) {
        heap.toGlobal(OTHER_SPARE_GLOBAL, holder);
        int fields = heap.formOf(holder) <= 1 ? heap.lengthOf(holder) : 0;
        for (int place = 0; place < fields; place++) {
            if (heap.load(holder, holder, place) >= 0) {
                tell("value", heap.get(holder, table, holder));
            }
            heap.fromGlobal(holder, OTHER_SPARE_GLOBAL);
        }
    }

    private void tellMarking() {
        while (heap.isMarking()) {
            tell("step", heap.step(1));
        }
        tell("digest behind marking", heap.digest());
    }

    private void tellReferents() {
        for (int slot = 0; slot < heap.slots(); slot++) {
            if (heap.formOf(slot) == 3 || heap.formOf(slot) == 4) {
                heap.toGlobal(SPARE_GLOBAL, slot);
                tell("referent", heap.read(slot, slot));
                heap.fromGlobal(slot, SPARE_GLOBAL);
            }
        }
    }

    private void tellCollections() {
        for (int age = 0; age < 4; age++) {
            tell("collectYoung", heap.collectYoung());
            tell("digest", heap.digest());
        }
        tell("collectAll", heap.collectAll(false));
        tell("digest", heap.digest());
        tell("collectAll, PRESSED", heap.collectAll(true));
        tell("digest", heap.digest());
    }

    private void tellRows() {
        int last = heap.slots() - 1;
        heap.toGlobal(SPARE_GLOBAL, last);
        while (heap.queued() > 0) {
            tell("poll", heap.poll(last));
        }
        while (heap.lasts() > 0) {
            tell("takeLast", heap.takeLast(last));
        }
        heap.fromGlobal(last, SPARE_GLOBAL);
        heap.push(1);
        heap.toGlobal(SPARE_GLOBAL, 0);
        heap.pop(0);
        heap.fromGlobal(0, SPARE_GLOBAL);
    }

    private void tellWhoIsQueued() {
        for (int slot = 0; slot < heap.slots(); slot++) {
            if (heap.formOf(slot) < 3 || heap.formOf(slot) > 5) {
                heap.clear(slot);
            }
        }
        for (int global = 0; global < 8; global++) {
            heap.push(1);
            heap.toGlobal(global, 0);
            heap.pop(0);
        }
        tell("collectAll of all but references", heap.collectAll(true));
        while (heap.queued() > 0) {
            tell("poll", heap.poll(0));
        }
        tell("digest at the end", heap.digest());
    }
}
