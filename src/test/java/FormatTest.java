/** Promises 1 and 2: a new object, and format(). */
public final class FormatTest {
    private static final Check CHECK = new Check();

    private FormatTest() {
    }

    public static void main(String[] args) {
        newObject();
        newIsAsFormatted();
        edges();
        allIsForgotten();
        wrongSizes();
        CHECK.end();
    }

    private static void newObject() {
        LooseHeap heap = new LooseHeap();
        isNew("new", heap, 16, 32);
    }

    private static void isNew(String name, LooseHeap heap, int pages, int words) {
        CHECK.same(name + " look(0)", heap.look(0), pages);
        CHECK.same(name + " look(1)", heap.look(1), words);
        CHECK.same(name + " look(3)", heap.look(3), -1);
        int[] zeros = {2, 4, 5, 6, 7, 8, 9, 10, 11, 12};
        for (int what : zeros) {
            CHECK.same(name + " look(" + what + ")", heap.look(what), 0);
        }
        for (int r = 0; r < 32; r++) {
            CHECK.same(name + " root(" + r + ")", heap.root(r), -1);
            CHECK.same(name + " loose(" + r + ", -1)", heap.loose(r, -1), -1);
        }
        for (int p = 0; p < pages; p++) {
            for (int what = 0; what < 4; what++) {
                CHECK.same(name + " page(" + p + ", " + what + ")", heap.page(p, what), 0);
            }
        }
        CHECK.same(name + " page behind the last", heap.page(pages, 0), -1);
        for (int a = 0; a < pages * words; a++) {
            CHECK.same(name + " word(" + a + ")", heap.word(a), 0);
            CHECK.same(name + " object(" + a + ", 2)", heap.object(a, 2), -1);
        }
    }

    private static void newIsAsFormatted() {
        LooseHeap formatted = new LooseHeap();
        formatted.format(16, 32);
        CHECK.same("a new one", Picture.of(new LooseHeap()), Picture.of(formatted));
    }

    private static void edges() {
        int[][] sizes = {{4, 8}, {4, 64}, {64, 8}, {64, 64}, {5, 9}};
        for (int[] size : sizes) {
            LooseHeap heap = new LooseHeap();
            heap.format(size[0], size[1]);
            isNew("format(" + size[0] + ", " + size[1] + ")", heap, size[0], size[1]);
        }
    }

    private static void allIsForgotten() {
        LooseHeap heap = new LooseHeap();
        heap.format(64, 64);
        for (int r = 0; r < 16; r++) {
            heap.make(r, 3, 47);
            heap.set(r, 46, -5);
        }
        heap.make(20, 31, 200);
        heap.loose(0, 70);
        heap.loose(31, 700);
        heap.drop(4);
        heap.collect();
        for (int what = 2; what <= 12; what++) {
            // No collection was given up yet: that is had below.
            CHECK.yes("something to forget in look(" + what + ")", heap.look(what) > 0 || what == 7);
        }
        heap.format(5, 8);
        isNew("format(5, 8) of a used one", heap, 5, 8);
        heap.format(64, 64);
        isNew("format(64, 64) of a used one", heap, 64, 64);
        fillUntilGivenUp(heap);
        heap.format(4, 8);
        isNew("format(4, 8) of one that gave up", heap, 4, 8);
    }

    // Four pages of 8 words, two of them full, that would need three new ones.
    private static void fillUntilGivenUp(LooseHeap heap) {
        heap.format(4, 8);
        heap.make(0, 0, 4);
        heap.make(2, 0, 2);
        heap.make(1, 0, 4);
        heap.make(3, 0, 2);
        CHECK.same("collect() is given up", heap.collect(), -1);
        CHECK.same("look(7)", heap.look(7), 1);
        heap.loose(31, 3);
        heap.loose(0, 9);
        CHECK.same("collect() of hit pages", heap.collect(), 2);
        CHECK.same("page(1, 3)", heap.page(1, 3), 1);
    }

    private static void wrongSizes() {
        int[][] sizes = {{3, 8}, {65, 8}, {4, 7}, {4, 65}, {0, 32}, {16, 0}, {-1, -1}, {16, -32},
            {Integer.MIN_VALUE, 8}, {Integer.MAX_VALUE, 8}, {4, Integer.MIN_VALUE}, {4, Integer.MAX_VALUE}};
        for (int[] size : sizes) {
            LooseHeap heap = new LooseHeap();
            heap.make(0, 1, 1);
            heap.loose(3, 5);
            CHECK.refused("format(" + size[0] + ", " + size[1] + ")", heap,
                    IllegalArgumentException.class, () -> heap.format(size[0], size[1]));
        }
    }
}
