/** Memories that are filled to the word. */
final class Fill {
    private Fill() {
    }

    /**
     * Fills up to so many words of OLD and of YOUNG objects in all, held by the slots of the first frame and by globals
     * from 0 on, without any collection; then lays a frame of 8 empty slots on top.
     */
    static void words(RuntimeHeap heap, int old, int young) {
        youngWords(heap, young - heap.youngWords());
        oldWords(heap, old - heap.oldWords());
        heap.push(8);
        Check.same("OLD words", heap.oldWords(), old);
        Check.same("YOUNG words", heap.youngWords(), young);
        Check.same("collections", heap.fullCollections() + heap.youngCollections(), 0);
    }

    /** Rows of up to 32 words each; there is none of 1 word. */
    private static void youngWords(RuntimeHeap heap, int words) {
        int left = words;
        for (int global = 0; left > 0; global++) {
            int share = left == 33 ? 31 : Math.min(left, 32);
            heap.newRow(0, share - 2);
            heap.toGlobal(global, 0);
            heap.clear(0);
            left -= share;
        }
    }

    /** Rows of 33 to 42 words each. */
    private static void oldWords(RuntimeHeap heap, int words) {
        int rows = (words + 41) / 42;
        int left = words;
        for (int row = 0; row < rows; row++) {
            int share = left / (rows - row);
            heap.newRow(row, share - 2);
            left -= share;
        }
    }

    /** Makes a net of one PLAIN and one ROW in the slots 0 and 1, of so many words in all: at least 6. */
    static void net(RuntimeHeap heap, int words) {
        int kind = heap.defineKind(-1, 1, 1, false);
        heap.newObject(0, kind);
        heap.newRow(1, words - 4 - 2);
        heap.store(0, 0, 1);
    }

    /** Makes an IMAGE of just these numbers, 3 to 400 of them; no object is left. */
    static void image(RuntimeHeap heap, int... numbers) {
        if (numbers.length <= 123) {
            heap.newText(0, numbers.length - 3);
        } else {
            int texts = (numbers.length - 7 + 121) / 122;
            int left = numbers.length - 7;
            heap.newRow(0, 4);
            for (int i = 0; i < texts; i++) {
                int share = left / (texts - i);
                heap.newText(1, share - 2);
                heap.store(0, i, 1);
                left -= share;
            }
        }
        Check.same("length of the IMAGE", heap.writeImage(0), numbers.length);
        for (int place = 0; place < numbers.length; place++) {
            if (heap.imageAt(place) != numbers[place]) {
                heap.setImage(place, numbers[place]);
            }
        }
        heap.clear(0);
        heap.clear(1);
        heap.collectAll(false);
        Check.same("objects", heap.objects(), 0);
    }

    /**
     * A memory in which there is something of everything: gaps in the numbers, each form, reached and unreached, YOUNG
     * of several ages and OLD, two that wait in each row, one that is still to be FINALIZED, two frames, an IMAGE, and
     * marking half done. The top frame: nothing, a WEAK, what was READ by it, a NEW ROW, an OLD PLAIN.
     */
    static void everything(RuntimeHeap heap) {
        heap.defineKind(-1, 2, 1, false);
        heap.defineKind(0, 1, 2, true);
        heap.setTenure(3);
        heap.newRow(0, 1);
        twoThatWaitInEachRow(heap);
        heap.newTable(2, 3);
        heap.newText(5, 1);
        heap.put(2, 5, 0);
        heap.newRow(7, 2);
        heap.collectYoung();
        heap.newObject(5, 1);
        heap.newRow(5, 0);
        heap.put(2, 0, 7);
        heap.newSoft(6, 7, false);
        heap.newRow(5, 40);
        heap.store(5, 39, 6);
        heap.toGlobal(3, 7);
        heap.toGlobal(0, 2);
        heap.toGlobal(1, 0);
        heap.writeImage(0);
        heap.setImage(4, -9);
        heap.push(5);
        heap.fromGlobal(4, 1);
        heap.newText(0, 2);
        heap.newWeak(1, 0, true);
        heap.clear(0);
        heap.beginMarking();
        heap.read(2, 1);
        heap.newRow(3, 0);
        heap.step(2);
        Check.yes("marking is on", heap.isMarking());
        Check.same("queued", heap.queued(), 2);
        Check.same("lasts", heap.lasts(), 2);
    }

    /** A PLAIN in slot 0 that holds an INTERNED TEXT; two in the LAST ROW, and WEAKs of them in the QUEUE. */
    private static void twoThatWaitInEachRow(RuntimeHeap heap) {
        heap.newObject(0, 0);
        heap.newText(1, 3);
        heap.setByte(1, 2, 255);
        heap.intern(1, 1);
        heap.store(0, 1, 1);
        heap.newPhantom(4, 1);
        for (int i = 0; i < 2; i++) {
            heap.newObject(2, 1);
            heap.setNumber(2, 2, -7 - i);
            heap.newWeak(3, 2, true);
            heap.clear(2);
            heap.collectAll(false);
        }
    }

    /** These numbers, and behind them so many zeros. */
    static int[] withZeros(int zeros, int... numbers) {
        int[] all = new int[numbers.length + zeros];
        System.arraycopy(numbers, 0, all, 0, numbers.length);
        return all;
    }

    /** An IMAGE of so many TEXTs of no bytes, 2 words each. */
    static int[] emptyTexts(int texts) {
        int[] all = new int[1 + 2 * texts];
        all[0] = texts;
        for (int i = 0; i < texts; i++) {
            all[1 + 2 * i] = 2;
        }
        return all;
    }

    /** 160 OLD and 48 YOUNG objects of 2 words, more than which there cannot be; the slots 0 and 1 hold one each. */
    static void mostObjects(RuntimeHeap heap) {
        image(heap, emptyTexts(160));
        heap.readImage(0);
        for (int i = 0; i < 48; i++) {
            heap.newRow(1, 0);
        }
        Check.same("objects", heap.objects(), 208);
    }
}
