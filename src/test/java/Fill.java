/** Memories that are filled to the word. */
final class Fill {
    private Fill() {
    }

    /**
     * Fills up to so many words of OLD and of YOUNG objects in all, held by the slots of the first frame and by globals
     * from 0 on, without any collection; then lays a frame of 8 empty slots on top.
     */
    static void words(RuntimeHeap heap, int old, int young) {
        youngWords(heap, young - heap.youngWords());
        oldWords(heap, old - heap.oldWords());
        heap.push(8);
        Check.same("OLD words", heap.oldWords(), old);
        Check.same("YOUNG words", heap.youngWords(), young);
        Check.same("collections", heap.fullCollections() + heap.youngCollections(), 0);
    }

    /** Rows of up to 32 words each; there is none of 1 word. */
    private static void youngWords(RuntimeHeap heap, int words) {
        int left = words;
        for (int global = 0; left > 0; global++) {
            int share = left == 33 ? 31 : Math.min(left, 32);
            heap.newRow(0, share - 2);
            heap.toGlobal(global, 0);
            heap.clear(0);
            left -= share;
        }
    }

    /** Rows of 33 to 42 words each. */
    private static void oldWords(RuntimeHeap heap, int words) {
        int rows = (words + 41) / 42;
        int left = words;
        for (int row = 0; row < rows; row++) {
            int share = left / (rows - row);
            heap.newRow(row, share - 2);
            left -= share;
        }
    }

    /** Makes a net of one PLAIN and one ROW in the slots 0 and 1, of so many words in all: at least 6. */
    static void net(RuntimeHeap heap, int words) {
        int kind = heap.defineKind(-1, 1, 1, false);
        heap.newObject(0, kind);
        heap.newRow(1, words - 4 - 2);
        heap.store(0, 0, 1);
    }

    /** Makes an IMAGE of just these numbers, 3 to 400 of them; no object is left. */
    static void image(RuntimeHeap heap, int... numbers) {
        if (numbers.length <= 123) {
            heap.newText(0, numbers.length - 3);
        } else {
            int texts = (numbers.length - 7 + 121) / 122;
            int left = numbers.length - 7;
            heap.newRow(0, 4);
            for (int i = 0; i < texts; i++) {
                int share = left / (texts - i);
                heap.newText(1, share - 2);
                heap.store(0, i, 1);
                left -= share;
            }
        }
        Check.same("length of the IMAGE", heap.writeImage(0), numbers.length);
        for (int place = 0; place < numbers.length; place++) {
            if (heap.imageAt(place) != numbers[place]) {
                heap.setImage(place, numbers[place]);
            }
        }
        heap.clear(0);
        heap.clear(1);
        heap.collectAll(false);
        Check.same("objects", heap.objects(), 0);
    }

    /** These numbers, and behind them so many zeros. */
    static int[] withZeros(int zeros, int... numbers) {
        int[] all = new int[numbers.length + zeros];
        System.arraycopy(numbers, 0, all, 0, numbers.length);
        return all;
    }

    /** An IMAGE of so many TEXTs of no bytes, 2 words each. */
    static int[] emptyTexts(int texts) {
        int[] all = new int[1 + 2 * texts];
        all[0] = texts;
        for (int i = 0; i < texts; i++) {
            all[1 + 2 * i] = 2;
        }
        return all;
    }

    /** 160 OLD and 48 YOUNG objects of 2 words, more than which there cannot be; the slots 0 and 1 hold one each. */
    static void mostObjects(RuntimeHeap heap) {
        image(heap, emptyTexts(160));
        heap.readImage(0);
        for (int i = 0; i < 48; i++) {
            heap.newRow(1, 0);
        }
        Check.same("objects", heap.objects(), 208);
    }
}
