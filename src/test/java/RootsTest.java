/** Promises 4, 5, 9, 10 and 12: copy(), drop(), loose(), take() and root(). */
public final class RootsTest {
    private static final Check CHECK = new Check();
    private static final int[] WRONG = {-1, 32, Integer.MIN_VALUE, Integer.MAX_VALUE};

    private RootsTest() {
    }

    public static void main(String[] args) {
        copies();
        drops();
        looseRoots();
        takes();
        takesWhatIsNotReached();
        roots();
        wrongRoots();
        CHECK.end();
    }

    private static void copies() {
        LooseHeap heap = new LooseHeap();
        heap.make(0, 0, 1);
        heap.make(31, 0, 1);
        heap.copy(31, 0);
        CHECK.same("root(0)", heap.root(0), 2);
        CHECK.same("root(31)", heap.root(31), 2);
        heap.copy(7, 31);
        CHECK.same("root(31) has NONE as root 7", heap.root(31), -1);
        heap.copy(0, 0);
        CHECK.same("root(0)", heap.root(0), 2);
        CHECK.same("both are still there", heap.look(4), 2);
        heap.copy(0, 9);
        heap.collect();
        CHECK.same("both tell one object", heap.root(0), heap.root(9));
        CHECK.same("look(4)", heap.look(4), 1);
    }

    private static void drops() {
        LooseHeap heap = new LooseHeap();
        heap.make(0, 0, 1);
        heap.make(31, 0, 1);
        heap.drop(31);
        CHECK.same("root(31)", heap.root(31), -1);
        CHECK.same("root(0)", heap.root(0), 0);
        CHECK.same("the object is there till a collection", heap.object(2, 2), 2);
        heap.drop(31);
        heap.drop(0);
        CHECK.same("collect()", heap.collect(), 0);
        CHECK.same("look(3)", heap.look(3), -1);
    }

    private static void looseRoots() {
        LooseHeap heap = new LooseHeap();
        CHECK.same("loose(0, 5)", heap.loose(0, 5), -1);
        CHECK.same("loose(31, min)", heap.loose(31, Integer.MIN_VALUE), -1);
        CHECK.same("loose(0, max)", heap.loose(0, Integer.MAX_VALUE), 5);
        CHECK.same("loose(31, 0)", heap.loose(31, 0), Integer.MIN_VALUE);
        CHECK.same("collect() with any ints", heap.collect(), 0);
        CHECK.same("loose(0, 0)", heap.loose(0, 0), Integer.MAX_VALUE);
        CHECK.same("loose(1, 0)", heap.loose(1, 0), -1);
    }

    private static void takes() {
        LooseHeap heap = new LooseHeap();
        heap.format(8, 8);
        heap.make(0, 1, 1);
        heap.make(1, 0, 0);
        heap.make(2, 0, 20);
        heap.set(0, 0, 257);
        heap.drop(0);
        CHECK.yes("take(0, 31)", heap.take(0, 31));
        CHECK.same("root(31)", heap.root(31), 0);
        CHECK.yes("take(3, 30)", heap.take(3, 30));
        CHECK.same("root(30)", heap.root(30), 3);
        CHECK.yes("take(8, 29)", heap.take(8, 29));
        CHECK.same("root(29)", heap.root(29), 8);
        int[] none = {1, 2, 4, 7, 9, 16, 24, 32, 63, 64, -1, -8, 3 + 64, Integer.MIN_VALUE,
            Integer.MAX_VALUE};
        for (int v : none) {
            String before = Picture.of(heap);
            CHECK.no("take(" + v + ", 31)", heap.take(v, 31));
            CHECK.same("take(" + v + ", 31)", Picture.of(heap), before);
        }
    }

    private static void takesWhatIsNotReached() {
        LooseHeap heap = new LooseHeap();
        heap.format(8, 8);
        heap.make(0, 0, 2);
        heap.set(0, 1, 44);
        heap.drop(0);
        heap.loose(4, 6);
        CHECK.same("collect()", heap.collect(), 1);
        CHECK.yes("take(0, 5)", heap.take(0, 5));
        heap.loose(4, -1);
        CHECK.same("collect()", heap.collect(), 1);
        CHECK.same("root(5)", heap.root(5), 8);
        CHECK.same("set(5, 1, 0)", heap.set(5, 1, 0), 44);
        CHECK.no("take(0, 5)", heap.take(0, 5));
        CHECK.same("root(5)", heap.root(5), 8);
    }

    private static void roots() {
        LooseHeap heap = new LooseHeap();
        heap.make(31, 0, 0);
        CHECK.same("root(31)", heap.root(31), 0);
        CHECK.same("root(0)", heap.root(0), -1);
        for (int r : WRONG) {
            CHECK.same("root(" + r + ")", heap.root(r), -1);
        }
    }

    private static void wrongRoots() {
        for (int r : WRONG) {
            LooseHeap heap = new LooseHeap();
            heap.make(0, 1, 1);
            refused("copy to " + r, heap, () -> heap.copy(0, r));
            refused("copy from " + r, heap, () -> heap.copy(r, 0));
            refused("drop " + r, heap, () -> heap.drop(r));
            refused("loose " + r, heap, () -> heap.loose(r, 3));
            refused("take an object to " + r, heap, () -> heap.take(0, r));
            refused("take nothing to " + r, heap, () -> heap.take(1, r));
        }
    }

    private static void refused(String what, LooseHeap heap, Runnable call) {
        CHECK.refused(what, heap, IllegalArgumentException.class, call);
    }
}
