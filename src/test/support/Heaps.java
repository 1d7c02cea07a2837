/** Heaps in states that several tests begin with. */
final class Heaps {
    private Heaps() {
    }

    static LooseHeap of(int pages, int words) {
        LooseHeap heap = new LooseHeap();
        heap.format(pages, words);
        return heap;
    }

    /** Exact roots 0 to count - 1 have one object each that fills a page. */
    static void fillPages(LooseHeap heap, int count) {
        for (int r = 0; r < count; r++) {
            heap.make(r, 0, heap.look(1) - 1);
        }
    }

    static void dropBelow(LooseHeap heap, int end) {
        for (int r = 0; r < end; r++) {
            heap.drop(r);
        }
    }

    /** 16 pages of 8 words; only 3, 7 and 11 are used, and loose roots 0, 1 and 2 point there. */
    static LooseHeap withThreeSevenElevenUsed() {
        LooseHeap heap = of(16, 8);
        fillPages(heap, 8);
        heap.loose(0, 3 * 8);
        heap.loose(1, 7 * 8);
        for (int r : new int[] {3, 5, 6, 7}) {
            heap.drop(r);
        }
        // Roots 0, 1, 2 and 4 are left, and their objects come to pages 8 to 11.
        heap.collect();
        heap.loose(2, 11 * 8);
        dropBelow(heap, 8);
        heap.collect();
        return heap;
    }

    /** 4 pages of 8 words: two of them have two objects each that would need three new ones. */
    static LooseHeap thatGivesUp() {
        LooseHeap heap = of(4, 8);
        heap.make(0, 0, 4);
        heap.make(2, 0, 2);
        heap.make(1, 0, 4);
        heap.make(3, 0, 2);
        return heap;
    }
}
