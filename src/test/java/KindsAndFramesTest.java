/** Promises 1 to 8 and 40 to 48: kinds, frames, slots and globals. */
final class KindsAndFramesTest {
    public static void main(String[] args) {
        Check.runAll(KindsAndFramesTest.class);
    }

    static void promise1NewObject() {
        RuntimeHeap heap = new RuntimeHeap();
        Check.same("objects", heap.objects(), 0);
        Check.same("made", heap.made(), 0);
        Check.same("kinds", heap.kinds(), 0);
        Check.same("frames", heap.frames(), 1);
        Check.same("slots", heap.slots(), 8);
        Check.same("tenure", heap.tenure(), 2);
        Check.same("imageLength", heap.imageLength(), 0);
        Check.no("isMarking", heap.isMarking());
        for (int i = 0; i < 8; i++) {
            Check.same("numberOf", heap.numberOf(i), -1);
            Check.same("globalNumber", heap.globalNumber(i), -1);
        }
    }
}
