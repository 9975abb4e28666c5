/** A tour through the memory; README.md shows it, and what it prints. */
public final class Tour {
    public static void main(String[] args) {
        RuntimeHeap heap = new RuntimeHeap();
        int node = heap.defineKind(-1, 2, 1, false); // no parent, 2 reference fields, 1 number field, not final
        int file = heap.defineKind(node, 0, 1, true); // the same fields and one number more; its objects are FINAL

        int first = heap.newObject(0, node); // slot 0 holds it
        int second = heap.newObject(1, file); // slot 1 holds it
        heap.store(0, 0, 1); // reference field 0 of what slot 0 holds: what slot 1 holds
        heap.setNumber(1, 1, 42); // number field 1 of what slot 1 holds
        heap.newWeak(2, 1, true); // slot 2 holds a QUEUED WEAK; what slot 1 holds is its referent
        heap.clear(1);
        System.out.println("objects " + first + " and " + second + " and one more: " + heap.youngWords() + " words");
        System.out.println("steps to the second: " + heap.distance(second) + ", the heaviest: " + heap.heaviest());

        heap.clear(0);
        System.out.println("removed: " + heap.collectAll(false) + ", cleared: " + heap.isCleared(2)
                + ", queued: " + heap.queued() + ", handed out once more: " + heap.takeLast(3));
        System.out.println("its number: " + heap.getNumber(3, 1));

        heap.writeImage(3);
        System.out.println("an image of " + heap.imageLength() + " numbers is read as object " + heap.readImage(4)
                + ", alike: " + heap.sameShape(3, 4));

        heap.newText(5, 3);
        heap.newText(6, 3);
        System.out.println("the one text of these bytes: " + heap.intern(5, 5) + " " + heap.intern(6, 6));

        System.out.println("roots hold: " + heap.beginMarking() + ", visited: " + heap.step(50)
                + ", marking is on: " + heap.isMarking());

        while (heap.newRow(7, 40) != -1) { // 42 words; -1 if there is no room for them
            heap.toGlobal(heap.made() % 8, 7);
        }
        System.out.println("no more room, with " + heap.oldWords() + " words of OLD objects");

        try {
            heap.load(0, 7, 40);
        } catch (IllegalArgumentException e) {
            System.out.println("a ROW of 40 places has no place 40; nothing has changed");
        }
    }
}
