/** Promises 13 to 16: word(), object(), page() and look(), which answer for any arguments. */
public final class LookTest {
    private static final Check CHECK = new Check();
    private static final int[] NOT_WHAT = {-1, 13, 99, Integer.MIN_VALUE, Integer.MAX_VALUE};

    private LookTest() {
    }

    public static void main(String[] args) {
        LooseHeap heap = new LooseHeap();
        heap.format(12, 8);
        heap.make(0, 2, 1);
        heap.make(1, 0, 0);
        heap.make(2, 1, 20);
        heap.make(3, 3, 3);
        heap.set(0, 0, 515);
        heap.link(0, 1, 1);
        String before = Picture.of(heap);
        words(heap);
        objects(heap);
        pages(heap);
        looks(heap);
        CHECK.same("looking changes nothing:", Picture.of(heap), before);
        behindCollections();
        CHECK.end();
    }

    private static void words(LooseHeap heap) {
        int[] due = {513, -1, 4, 515, 0, 0, 0, 0, 276, -1, 0};
        for (int a = 0; a < due.length; a++) {
            CHECK.same("word(" + a + ")", heap.word(a), due[a]);
        }
        CHECK.same("word(32)", heap.word(32), 771);
        CHECK.same("word(95)", heap.word(95), 0);
        int[] none = {-1, -8, 96, 97, 4096, Integer.MIN_VALUE, Integer.MAX_VALUE};
        for (int a : none) {
            CHECK.same("word(" + a + ")", heap.word(a), 0);
        }
    }

    private static void objects(LooseHeap heap) {
        int[][] due = {{0, 2, 1, 4}, {4, 0, 0, 1}, {8, 1, 20, 22}, {32, 3, 3, 7}};
        for (int[] d : due) {
            for (int what = 0; what < 3; what++) {
                CHECK.same("object(" + d[0] + ", " + what + ")", heap.object(d[0], what), d[what + 1]);
            }
            CHECK.same("object(" + d[0] + ", 3)", heap.object(d[0], 3), -1);
            for (int what : NOT_WHAT) {
                CHECK.same("object(" + d[0] + ", " + what + ")", heap.object(d[0], what), -1);
            }
        }
        int[] none = {1, 3, 5, 7, 9, 16, 24, 31, 33, 95, 96, -1, -8, 4096, Integer.MIN_VALUE,
            Integer.MAX_VALUE};
        for (int a : none) {
            for (int what = 0; what < 3; what++) {
                CHECK.same("object(" + a + ", " + what + ")", heap.object(a, what), -1);
            }
        }
    }

    private static void pages(LooseHeap heap) {
        int[][] due = {{1, 5, 2, 0}, {2, 8, 1, 0}, {3, 8, 0, 0}, {3, 6, 0, 0}, {1, 7, 1, 0},
            {0, 0, 0, 0}};
        for (int p = 0; p < due.length; p++) {
            for (int what = 0; what < 4; what++) {
                CHECK.same("page(" + p + ", " + what + ")", heap.page(p, what), due[p][what]);
            }
            CHECK.same("page(" + p + ", 4)", heap.page(p, 4), -1);
            for (int what : NOT_WHAT) {
                CHECK.same("page(" + p + ", " + what + ")", heap.page(p, what), -1);
            }
        }
        int[] none = {-1, 12, 63, 64, Integer.MIN_VALUE, Integer.MAX_VALUE};
        for (int p : none) {
            for (int what = 0; what < 4; what++) {
                CHECK.same("page(" + p + ", " + what + ")", heap.page(p, what), -1);
            }
        }
    }

    private static void looks(LooseHeap heap) {
        int[] due = {12, 8, 5, 4, 4, 34, 0, 0, 0, 0, 0, 0, 0};
        for (int what = 0; what < due.length; what++) {
            CHECK.same("look(" + what + ")", heap.look(what), due[what]);
        }
        for (int what : NOT_WHAT) {
            CHECK.same("look(" + what + ")", heap.look(what), -1);
        }
    }

    private static void behindCollections() {
        LooseHeap heap = new LooseHeap();
        heap.format(16, 8);
        heap.make(0, 0, 20);
        heap.make(1, 0, 7);
        heap.make(2, 0, 7);
        heap.make(3, 0, 7);
        heap.make(4, 0, 1);
        heap.loose(0, 8);
        heap.loose(1, 24);
        heap.drop(3);
        CHECK.same("collect()", heap.collect(), 6);
        int[] due = {16, 8, 6, 8, 4, 39, 1, 0, 4, 4, 2, 2, 3};
        for (int what = 0; what < due.length; what++) {
            CHECK.same("behind one look(" + what + ")", heap.look(what), due[what]);
        }
        heap.loose(0, -1);
        heap.loose(1, -1);
        for (int r = 0; r < 5; r++) {
            heap.drop(r);
        }
        CHECK.same("collect()", heap.collect(), 0);
        int[] next = {16, 8, 0, -1, 0, 0, 2, 0, 0, 0, 0, 0, 6};
        for (int what = 0; what < next.length; what++) {
            CHECK.same("behind two look(" + what + ")", heap.look(what), next[what]);
        }
        CHECK.same("page(0, 3)", heap.page(0, 3), 0);
    }
}
