/** Promises 6, 7 and 8: link(), follow() and set(). */
public final class FieldsTest {
    private static final Check CHECK = new Check();
    private static final int[] WRONG_ROOTS = {-1, 32, Integer.MIN_VALUE, Integer.MAX_VALUE};

    private FieldsTest() {
    }

    public static void main(String[] args) {
        links();
        follows();
        sets();
        longObject();
        wrongRoots();
        rootsWithNone();
        wrongFields();
        whichComesFirst();
        CHECK.end();
    }

    private static LooseHeap heap() {
        LooseHeap heap = new LooseHeap();
        heap.format(8, 16);
        heap.make(0, 2, 3);
        heap.make(1, 1, 0);
        return heap;
    }

    private static void links() {
        LooseHeap heap = heap();
        heap.link(0, 0, 1);
        heap.link(0, 1, 0);
        CHECK.same("word(1)", heap.word(1), 6);
        CHECK.same("word(2)", heap.word(2), 0);
        heap.link(0, 0, 9);
        CHECK.same("word(1) tells NONE", heap.word(1), -1);
        heap.link(1, 0, 0);
        CHECK.same("word(7)", heap.word(7), 0);
    }

    private static void follows() {
        LooseHeap heap = heap();
        heap.link(0, 1, 1);
        CHECK.same("follow(0, 1, 31)", heap.follow(0, 1, 31), 6);
        CHECK.same("root(31)", heap.root(31), 6);
        CHECK.same("follow(0, 0, 31)", heap.follow(0, 0, 31), -1);
        CHECK.same("root(31)", heap.root(31), -1);
        CHECK.same("root(0)", heap.root(0), 0);
        CHECK.same("follow(0, 1, 0) to itself", heap.follow(0, 1, 0), 6);
        CHECK.same("root(0)", heap.root(0), 6);
    }

    private static void sets() {
        LooseHeap heap = heap();
        CHECK.same("set(0, 0, 5)", heap.set(0, 0, 5), 0);
        CHECK.same("set(0, 2, min)", heap.set(0, 2, Integer.MIN_VALUE), 0);
        CHECK.same("set(0, 0, -1)", heap.set(0, 0, -1), 5);
        CHECK.same("set(0, 2, max)", heap.set(0, 2, Integer.MAX_VALUE), Integer.MIN_VALUE);
        int[] due = {515, -1, -1, -1, 0, Integer.MAX_VALUE, 256, -1, 0};
        for (int a = 0; a < due.length; a++) {
            CHECK.same("word(" + a + ")", heap.word(a), due[a]);
        }
    }

    private static void longObject() {
        LooseHeap heap = new LooseHeap();
        heap.format(64, 8);
        heap.make(0, 31, 200);
        heap.make(1, 0, 0);
        heap.link(0, 30, 1);
        CHECK.same("word(31)", heap.word(31), 29 * 8);
        CHECK.same("follow(0, 30, 2)", heap.follow(0, 30, 2), 29 * 8);
        heap.set(0, 0, 4);
        heap.set(0, 199, 6);
        CHECK.same("word(32)", heap.word(32), 4);
        CHECK.same("word(231)", heap.word(231), 6);
        refused("link(0, 31, 1)", heap, 3, () -> heap.link(0, 31, 1));
        refused("set(0, 200, 1)", heap, 3, () -> heap.set(0, 200, 1));
    }

    private static void wrongRoots() {
        LooseHeap heap = heap();
        for (int r : WRONG_ROOTS) {
            refused("link of " + r, heap, 1, () -> heap.link(r, 0, 1));
            refused("link from " + r, heap, 1, () -> heap.link(0, 0, r));
            refused("follow of " + r, heap, 1, () -> heap.follow(r, 0, 1));
            refused("follow to " + r, heap, 1, () -> heap.follow(0, 0, r));
            refused("set of " + r, heap, 1, () -> heap.set(r, 0, 1));
        }
    }

    private static void rootsWithNone() {
        LooseHeap heap = heap();
        refused("link(5, 0, 1)", heap, 2, () -> heap.link(5, 0, 1));
        refused("follow(5, 0, 1)", heap, 2, () -> heap.follow(5, 0, 1));
        refused("set(5, 0, 1)", heap, 2, () -> heap.set(5, 0, 1));
    }

    private static void wrongFields() {
        LooseHeap heap = heap();
        int[] wrongRefs = {-1, 2, Integer.MIN_VALUE, Integer.MAX_VALUE};
        for (int i : wrongRefs) {
            refused("link of REF " + i, heap, 3, () -> heap.link(0, i, 1));
            refused("follow of REF " + i, heap, 3, () -> heap.follow(0, i, 1));
        }
        int[] wrongData = {-1, 3, Integer.MIN_VALUE, Integer.MAX_VALUE};
        for (int i : wrongData) {
            refused("set of DATA " + i, heap, 3, () -> heap.set(0, i, 1));
        }
        refused("set of an OBJECT without DATA", heap, 3, () -> heap.set(1, 0, 1));
    }

    private static void whichComesFirst() {
        LooseHeap heap = heap();
        refused("link(5, 99, 32)", heap, 1, () -> heap.link(5, 99, 32));
        refused("link(0, 99, -1)", heap, 1, () -> heap.link(0, 99, -1));
        refused("link(5, 99, 0)", heap, 2, () -> heap.link(5, 99, 0));
        refused("follow(5, 99, 32)", heap, 1, () -> heap.follow(5, 99, 32));
        refused("follow(0, 99, -1)", heap, 1, () -> heap.follow(0, 99, -1));
        refused("follow(5, 99, 0)", heap, 2, () -> heap.follow(5, 99, 0));
        refused("set(32, 99, 0)", heap, 1, () -> heap.set(32, 99, 0));
        refused("set(5, 99, 0)", heap, 2, () -> heap.set(5, 99, 0));
    }

    private static void refused(String what, LooseHeap heap, int which, Runnable call) {
        CHECK.refused(what, heap, which == 1 ? IllegalArgumentException.class
                : which == 2 ? IllegalStateException.class
                : java.util.NoSuchElementException.class, call);
    }
}
