/** Memories that are filled to the word. */
final class Fill {
    private Fill() {
    }

    /**
     * Fills up to so many words of OLD and of YOUNG objects in all, held by the slots of the first frame and by globals
     * from 0 on, without any collection; then lays a frame of 8 empty slots on top.
     */
    static void words(RuntimeHeap heap, int old, int young) {
        youngWords(heap, young - heap.youngWords());
        oldWords(heap, old - heap.oldWords());
        heap.push(8);
        Check.same("OLD words", heap.oldWords(), old);
        Check.same("YOUNG words", heap.youngWords(), young);
        Check.same("collections", heap.fullCollections() + heap.youngCollections(), 0);
    }

    /** Rows of up to 32 words each; there is none of 1 word. */
    private static void youngWords(RuntimeHeap heap, int words) {
        int left = words;
        for (int global = 0; left > 0; global++) {
            int share = left == 33 ? 31 : Math.min(left, 32);
            heap.newRow(0, share - 2);
            heap.toGlobal(global, 0);
            heap.clear(0);
            left -= share;
        }
    }

    /** Rows of 33 to 42 words each. */
    private static void oldWords(RuntimeHeap heap, int words) {
        int rows = (words + 41) / 42;
        int left = words;
        for (int row = 0; row < rows; row++) {
            int share = left / (rows - row);
            heap.newRow(row, share - 2);
            left -= share;
        }
    }

    /** Makes a net of one PLAIN and one ROW in the slots 0 and 1, of so many words in all: at least 6. */
    static void net(RuntimeHeap heap, int words) {
        int kind = heap.defineKind(-1, 1, 1, false);
        heap.newObject(0, kind);
        heap.newRow(1, words - 4 - 2);
        heap.store(0, 0, 1);
    }
}
