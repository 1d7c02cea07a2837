/** The edges that term 1 names, sentence by sentence: addresses, sizes, and what lies in a page. */
public final class HeapEdgesTest {
    private static final Check CHECK = new Check();
    private static final int[][] CORNERS = {{4, 8}, {4, 64}, {64, 8}, {64, 64}, {5, 9}, {63, 63}};

    private HeapEdgesTest() {
    }

    public static void main(String[] args) {
        firstWord();
        lastWord();
        everySize();
        largestSmallOne();
        leastLongOne();
        longOnesOfWholePages();
        longOneBehindAnOpenPage();
        nothingElseLiesWithALongOne();
        noGapsUpToAFullPage();
        fullPageOfEmptyObjects();
        wordsWithoutObjectsAreZero();
        wordsBehindAMovedObjectAreZero();
        firstAndLastRoots();
        anyIntInALooseRoot();
        onlyOneOpenPage();
        noOpenPage();
        CHECK.end();
    }

    // "PAGES, from 0 on": the first object of a heap comes to ADDRESS 0.
    private static void firstWord() {
        for (int[] size : CORNERS) {
            LooseHeap heap = Heaps.of(size[0], size[1]);
            heap.make(0, 0, 1);
            CHECK.same("root(0)", heap.root(0), 0);
            CHECK.same("word(0)", heap.word(0), 1);
            CHECK.same("page(0, 0)", heap.page(0, 0), 1);
        }
    }

    // "WORD k of PAGE p has the ADDRESS p * WORDS + k": up to the last one of the last PAGE, to
    // which only a collection brings an object, for making takes half of the PAGES.
    private static void lastWord() {
        for (int[] size : CORNERS) {
            int pages = size[0];
            int words = size[1];
            LooseHeap heap = Heaps.of(pages, words);
            int half = pages / 2;
            Heaps.fillPages(heap, half);
            heap.collect();
            int last = half + half - 1;
            CHECK.same("root of the last", heap.root(half - 1), last * words);
            CHECK.same("page(last, 1)", heap.page(last, 1), words);
            heap.set(half - 1, words - 2, 987);
            CHECK.same("its last word", heap.word(last * words + words - 1), 987);
        }
        lastWordOfTheLargestHeap();
    }

    private static void lastWordOfTheLargestHeap() {
        LooseHeap heap = Heaps.of(64, 64);
        Heaps.fillPages(heap, 32);
        CHECK.same("collect()", heap.collect(), 32);
        CHECK.same("root(31)", heap.root(31), 63 * 64);
        CHECK.same("set(31, 62, -9)", heap.set(31, 62, -9), 0);
        CHECK.same("word(4095)", heap.word(4095), -9);
        CHECK.same("word(4096)", heap.word(4096), 0);
        CHECK.same("object(4032, 2)", heap.object(4032, 2), 64);
        CHECK.yes("take(4032, 0)", heap.take(4032, 0));
        CHECK.no("take(4096, 0)", heap.take(4096, 0));
    }

    // "REFS (0 to 31) and DATA (0 to 200): at its ADDRESS 256 * REFS + DATA, then its REFS, then
    // its DATA: its SIZE is 1 + REFS + DATA", in as many PAGES as it needs.
    private static void everySize() {
        for (int refs = 0; refs <= 31; refs++) {
            for (int data = 0; data <= 200; data++) {
                oneSize(refs, data);
            }
        }
    }

    private static void oneSize(int refs, int data) {
        String name = "make(0, " + refs + ", " + data + ") ";
        LooseHeap heap = Heaps.of(64, 8);
        int size = 1 + refs + data;
        int need = (size + 7) / 8;
        CHECK.yes(name, heap.make(0, refs, data));
        CHECK.same(name + "head", heap.word(0), 256 * refs + data);
        CHECK.same(name + "REFS", heap.object(0, 0), refs);
        CHECK.same(name + "DATA", heap.object(0, 1), data);
        CHECK.same(name + "SIZE", heap.object(0, 2), size);
        CHECK.same(name + "last REF", heap.word(refs), refs == 0 ? data : -1);
        CHECK.same(name + "behind the REFS", heap.word(refs + 1), 0);
        CHECK.same(name + "USED", heap.look(2), need);
        CHECK.same(name + "the first PAGE", heap.page(0, 0), need == 1 ? 1 : 2);
        CHECK.same(name + "WORDS of the last PAGE", heap.page(need - 1, 1), size - 8 * (need - 1));
        CHECK.same(name + "the PAGE behind", heap.page(need, 0), 0);
        if (data > 0) {
            heap.set(0, data - 1, 77);
            CHECK.same(name + "last DATA", heap.word(size - 1), 77);
        }
        CHECK.same(name + "behind it", heap.word(size), 0);
    }

    // "A SMALL one (SIZE at most WORDS)": one of just WORDS is SMALL for any WORDS.
    private static void largestSmallOne() {
        for (int words = 8; words <= 64; words++) {
            LooseHeap heap = Heaps.of(8, words);
            heap.make(0, 3, words - 4);
            CHECK.same(words + " of " + words + ": page(0, 0)", heap.page(0, 0), 1);
            CHECK.same(words + " of " + words + ": page(0, 1)", heap.page(0, 1), words);
            CHECK.same(words + " of " + words + ": look(2)", heap.look(2), 1);
            CHECK.same(words + " of " + words + ": look(3)", heap.look(3), 0);
            heap.collect();
            CHECK.same(words + " of " + words + ": it is moved", heap.root(0), words);
        }
    }

    // "a LONG one from the first WORD of a PAGE on": one WORD more than a PAGE has makes it LONG.
    private static void leastLongOne() {
        for (int words = 8; words <= 64; words++) {
            String name = (words + 1) + " of " + words;
            LooseHeap heap = Heaps.of(8, words);
            heap.make(0, 3, words - 3);
            CHECK.same(name + ": page(0, 0)", heap.page(0, 0), 2);
            CHECK.same(name + ": page(1, 0)", heap.page(1, 0), 3);
            CHECK.same(name + ": page(0, 1)", heap.page(0, 1), words);
            CHECK.same(name + ": page(1, 1)", heap.page(1, 1), 1);
            CHECK.same(name + ": page(0, 2)", heap.page(0, 2), 1);
            CHECK.same(name + ": page(1, 2)", heap.page(1, 2), 0);
            CHECK.same(name + ": look(2)", heap.look(2), 2);
            CHECK.same(name + ": look(3)", heap.look(3), -1);
            heap.collect();
            CHECK.same(name + ": it stays", heap.root(0), 0);
        }
    }

    // "in as many PAGES, one behind the other, as it needs": no further one if it ends with a PAGE.
    private static void longOnesOfWholePages() {
        LooseHeap heap = Heaps.of(24, 8);
        heap.make(0, 0, 15);
        heap.make(1, 0, 16);
        heap.make(2, 0, 31);
        heap.make(3, 0, 14);
        int[] roots = {0, 16, 40, 72};
        for (int r = 0; r < roots.length; r++) {
            CHECK.same("root(" + r + ")", heap.root(r), roots[r]);
        }
        int[] kinds = {2, 3, 2, 3, 3, 2, 3, 3, 3, 2, 3, 0};
        int[] filled = {8, 8, 8, 8, 1, 8, 8, 8, 8, 8, 7, 0};
        for (int p = 0; p < kinds.length; p++) {
            CHECK.same("page(" + p + ", 0)", heap.page(p, 0), kinds[p]);
            CHECK.same("page(" + p + ", 1)", heap.page(p, 1), filled[p]);
        }
        CHECK.same("look(2)", heap.look(2), 11);
    }

    // "from the first WORD of a PAGE on": not behind what lies in the OPEN PAGE.
    private static void longOneBehindAnOpenPage() {
        LooseHeap heap = Heaps.of(8, 8);
        heap.make(0, 0, 0);
        heap.make(1, 0, 8);
        CHECK.same("root(1)", heap.root(1), 8);
        CHECK.same("page(0, 1)", heap.page(0, 1), 1);
    }

    // "and nothing else lies there": the rest of a LONG one's last PAGE is not for SMALL ones.
    private static void nothingElseLiesWithALongOne() {
        LooseHeap heap = Heaps.of(6, 8);
        heap.make(0, 0, 8);
        heap.make(1, 0, 0);
        CHECK.same("root(1) has a PAGE of its own", heap.root(1), 16);
        LooseHeap full = Heaps.of(4, 8);
        full.make(0, 0, 8);
        CHECK.no("the PAGES are taken, though 7 WORDS are left", full.make(1, 0, 0));
        CHECK.same("page(1, 1)", full.page(1, 1), 1);
    }

    // "In a PAGE of SMALL ones they lie without gaps from its first WORD on".
    private static void noGapsUpToAFullPage() {
        LooseHeap heap = Heaps.of(4, 16);
        int[] roots = {0, 1, 3, 6, 10, 15};
        for (int r = 0; r < 5; r++) {
            heap.make(r, 0, r);
        }
        heap.make(5, 0, 0);
        for (int r = 0; r < roots.length; r++) {
            CHECK.same("root(" + r + ")", heap.root(r), roots[r]);
        }
        CHECK.same("page(0, 1)", heap.page(0, 1), 16);
        CHECK.same("page(0, 2)", heap.page(0, 2), 6);
        heap.make(6, 0, 0);
        CHECK.same("root(6) comes to the next", heap.root(6), 16);
    }

    // An object of SIZE 1 has the head 0 and is an object all the same: 64 of them fill a PAGE.
    private static void fullPageOfEmptyObjects() {
        LooseHeap heap = Heaps.of(4, 64);
        for (int k = 0; k < 64; k++) {
            CHECK.yes("make", heap.make(31, 0, 0));
            CHECK.same("root(31)", heap.root(31), k);
        }
        CHECK.same("page(0, 1)", heap.page(0, 1), 64);
        CHECK.same("page(0, 2)", heap.page(0, 2), 64);
        CHECK.same("look(4)", heap.look(4), 64);
        CHECK.same("object(0, 2)", heap.object(0, 2), 1);
        CHECK.same("object(63, 2)", heap.object(63, 2), 1);
        CHECK.same("object(64, 2)", heap.object(64, 2), -1);
        CHECK.yes("take(63, 0)", heap.take(63, 0));
        heap.make(31, 0, 0);
        CHECK.same("the 65th", heap.root(31), 64);
        CHECK.same("collect()", heap.collect(), 1);
        CHECK.same("root(0)", heap.root(0), 128);
        CHECK.same("root(31)", heap.root(31), 129);
        CHECK.same("look(4)", heap.look(4), 2);
    }

    // "all WORDS in which no OBJECT lies are 0": where objects were that are no more.
    private static void wordsWithoutObjectsAreZero() {
        LooseHeap heap = Heaps.of(12, 8);
        heap.make(0, 3, 4);
        heap.make(1, 31, 0);
        for (int i = 0; i < 4; i++) {
            heap.set(0, i, -7);
        }
        heap.drop(0);
        heap.drop(1);
        CHECK.same("they lie there till a collection", heap.word(7), -7);
        heap.collect();
        allZeroFrom(heap, 0);
        heap.make(2, 0, 31);
        for (int i = 0; i < 31; i++) {
            CHECK.same("a new object's DATA " + i, heap.set(2, i, 1), 0);
        }
    }

    // The same for the PAGE that an object was moved from, and behind it where it came to.
    private static void wordsBehindAMovedObjectAreZero() {
        LooseHeap heap = Heaps.of(4, 8);
        heap.make(0, 0, 2);
        heap.make(1, 0, 4);
        heap.set(0, 0, 5);
        heap.set(1, 3, 6);
        heap.drop(1);
        heap.collect();
        for (int a = 0; a < 8; a++) {
            CHECK.same("word(" + a + ")", heap.word(a), 0);
            CHECK.same("object(" + a + ", 2)", heap.object(a, 2), -1);
        }
        CHECK.same("word(8)", heap.word(8), 2);
        CHECK.same("word(9)", heap.word(9), 5);
        allZeroFrom(heap, 10);
    }

    private static void allZeroFrom(LooseHeap heap, int from) {
        for (int a = from; a < heap.look(0) * heap.look(1); a++) {
            CHECK.same("word(" + a + ")", heap.word(a), 0);
            CHECK.same("object(" + a + ", 2)", heap.object(a, 2), -1);
        }
    }

    // "EXACT ROOTS, 0 to 31, have the ADDRESS of an OBJECT, or NONE": all 32 of them count.
    private static void firstAndLastRoots() {
        LooseHeap heap = Heaps.of(8, 32);
        for (int r = 0; r < 32; r++) {
            heap.make(r, 0, 1);
        }
        heap.collect();
        for (int r = 0; r < 32; r++) {
            CHECK.same("root(" + r + ")", heap.root(r), 64 + 2 * r);
        }
        CHECK.same("look(10)", heap.look(10), 32);
        for (int r = 1; r < 31; r++) {
            heap.drop(r);
        }
        heap.collect();
        CHECK.same("root(0)", heap.root(0), 0);
        CHECK.same("root(31)", heap.root(31), 2);
        CHECK.same("look(4)", heap.look(4), 2);
    }

    // "LOOSE ROOTS, 0 to 31, have any int."
    private static void anyIntInALooseRoot() {
        int[] values = {0, 1, -1, -2, 127, 128, 4095, 4096, Integer.MAX_VALUE, Integer.MIN_VALUE};
        for (int r = 0; r < 32; r++) {
            LooseHeap heap = Heaps.of(4, 8);
            int before = -1;
            for (int v : values) {
                CHECK.same("loose(" + r + ", " + v + ")", heap.loose(r, v), before);
                before = v;
            }
            heap.collect();
            CHECK.same("behind a collection", heap.loose(r, 0), before);
        }
    }

    // "One PAGE of SMALL ones may be OPEN": one that was OPEN earlier takes no more.
    private static void onlyOneOpenPage() {
        LooseHeap heap = Heaps.of(8, 8);
        heap.make(0, 0, 3);
        heap.make(1, 0, 5);
        CHECK.same("look(3)", heap.look(3), 1);
        heap.make(2, 0, 1);
        CHECK.same("root(2)", heap.root(2), 14);
        heap.make(3, 0, 0);
        CHECK.same("root(3) does not come to PAGE 0", heap.root(3), 16);
        CHECK.same("look(3)", heap.look(3), 2);
        CHECK.same("page(0, 1)", heap.page(0, 1), 4);
    }

    private static void noOpenPage() {
        LooseHeap heap = Heaps.of(8, 8);
        CHECK.same("new: look(3)", heap.look(3), -1);
        heap.make(0, 0, 8);
        CHECK.same("with a LONG one alone: look(3)", heap.look(3), -1);
        heap.make(1, 0, 7);
        CHECK.same("a full one is OPEN too: look(3)", heap.look(3), 2);
        heap.drop(1);
        heap.collect();
        CHECK.same("nothing moved: look(3)", heap.look(3), -1);
    }
}
