/** Promise 3, and terms 1 and 2: where objects come, and when there is a collection for one. */
public final class MakeTest {
    private static final Check CHECK = new Check();

    private MakeTest() {
    }

    public static void main(String[] args) {
        newObjectsWords();
        smallOnesLieWithoutGaps();
        wholePageIsSmall();
        oneWordMoreIsLong();
        largestObject();
        emptyObject();
        longLeavesOpenPage();
        longTakesFirstRow();
        halfIsCut();
        tooLongEver();
        openPageIsAskedBehindCollection();
        openPageIsAskedOverHalf();
        rootKeepsItsObject();
        givenUpMakesNothing();
        collectionForWantOfARow();
        wrongArguments();
        CHECK.end();
    }

    private static void newObjectsWords() {
        LooseHeap heap = Heaps.of(8, 16);
        CHECK.yes("make(3, 2, 3)", heap.make(3, 2, 3));
        CHECK.same("root(3)", heap.root(3), 0);
        int[] due = {515, -1, -1, 0, 0, 0, 0};
        for (int a = 0; a < due.length; a++) {
            CHECK.same("word(" + a + ")", heap.word(a), due[a]);
        }
        CHECK.same("look(3)", heap.look(3), 0);
        CHECK.same("look(5)", heap.look(5), 6);
    }

    private static void smallOnesLieWithoutGaps() {
        LooseHeap heap = Heaps.of(8, 8);
        heap.make(0, 0, 2);
        heap.make(1, 1, 1);
        CHECK.same("root(1)", heap.root(1), 3);
        heap.make(2, 0, 2);
        CHECK.same("root(2) did not fit in 2 words", heap.root(2), 8);
        CHECK.same("look(3)", heap.look(3), 1);
        heap.make(3, 0, 0);
        CHECK.same("root(3) comes to the OPEN PAGE alone", heap.root(3), 11);
        CHECK.same("look(6)", heap.look(6), 0);
    }

    private static void wholePageIsSmall() {
        LooseHeap heap = Heaps.of(8, 8);
        heap.make(0, 3, 4);
        CHECK.same("page(0, 0)", heap.page(0, 0), 1);
        CHECK.same("look(3)", heap.look(3), 0);
        heap.make(1, 0, 0);
        CHECK.same("root(1)", heap.root(1), 8);
    }

    private static void oneWordMoreIsLong() {
        LooseHeap heap = Heaps.of(8, 8);
        heap.make(0, 3, 5);
        CHECK.same("page(0, 0)", heap.page(0, 0), 2);
        CHECK.same("page(1, 0)", heap.page(1, 0), 3);
        CHECK.same("page(1, 1)", heap.page(1, 1), 1);
        CHECK.same("page(2, 0)", heap.page(2, 0), 0);
        CHECK.same("look(3)", heap.look(3), -1);
    }

    private static void largestObject() {
        LooseHeap heap = Heaps.of(64, 8);
        CHECK.yes("make(31, 31, 200)", heap.make(31, 31, 200));
        CHECK.same("word(0)", heap.word(0), 256 * 31 + 200);
        CHECK.same("word(31)", heap.word(31), -1);
        CHECK.same("word(32)", heap.word(32), 0);
        CHECK.same("look(2)", heap.look(2), 29);
        CHECK.same("set(31, 199, 8)", heap.set(31, 199, 8), 0);
        CHECK.same("word(231)", heap.word(231), 8);
    }

    // Its head is 0 and looks as if nothing were there.
    private static void emptyObject() {
        LooseHeap heap = Heaps.of(4, 8);
        for (int k = 0; k < 16; k++) {
            CHECK.yes("make(" + k + ", 0, 0)", heap.make(k, 0, 0));
            CHECK.same("root(" + k + ")", heap.root(k), k);
        }
        CHECK.same("look(4)", heap.look(4), 16);
        CHECK.no("make(16, 0, 0)", heap.make(16, 0, 0));
        CHECK.same("look(4)", heap.look(4), 16);
        CHECK.same("root(15)", heap.root(15), 31);
    }

    private static void longLeavesOpenPage() {
        LooseHeap heap = Heaps.of(10, 8);
        heap.make(0, 0, 1);
        heap.make(1, 0, 8);
        CHECK.same("root(1)", heap.root(1), 8);
        CHECK.same("look(3)", heap.look(3), 0);
        heap.make(2, 0, 1);
        CHECK.same("root(2)", heap.root(2), 2);
    }

    private static void longTakesFirstRow() {
        LooseHeap heap = Heaps.of(20, 8);
        heap.make(0, 0, 8);
        heap.make(1, 0, 7);
        heap.make(2, 0, 8);
        heap.make(3, 0, 7);
        heap.drop(0);
        heap.loose(0, 16);
        heap.loose(1, 47);
        heap.collect();
        // FREE are now 0 and 1, and 5 is a hit page of a small one.
        CHECK.same("page(2, 0)", heap.page(2, 0), 1);
        CHECK.same("page(5, 0)", heap.page(5, 0), 1);
        heap.make(4, 0, 20);
        CHECK.same("root(4) needs three in a row", heap.root(4), 48);
        heap.make(5, 0, 9);
        CHECK.same("root(5) needs two in a row", heap.root(5), 0);
    }

    private static void halfIsCut() {
        LooseHeap heap = Heaps.of(7, 8);
        CHECK.yes("first", heap.make(0, 0, 7));
        CHECK.yes("second", heap.make(1, 0, 7));
        CHECK.yes("third", heap.make(2, 0, 7));
        CHECK.same("no collection yet", heap.look(6), 0);
        CHECK.no("fourth of seven", heap.make(3, 0, 7));
        CHECK.same("a collection", heap.look(6), 1);
        CHECK.same("root(3)", heap.root(3), -1);
        LooseHeap wide = Heaps.of(8, 8);
        CHECK.yes("4 PAGES of 8", wide.make(0, 0, 31));
        CHECK.no("one more", wide.make(1, 0, 0));
        LooseHeap other = Heaps.of(8, 8);
        CHECK.no("5 PAGES of 8", other.make(0, 0, 32));
    }

    private static void tooLongEver() {
        LooseHeap heap = Heaps.of(4, 8);
        heap.make(0, 0, 3);
        CHECK.no("make(1, 31, 200)", heap.make(1, 31, 200));
        CHECK.same("there was a collection all the same", heap.look(6), 1);
        CHECK.same("that moved root(0)", heap.root(0), 8);
        CHECK.same("root(1)", heap.root(1), -1);
    }

    private static void openPageIsAskedBehindCollection() {
        LooseHeap heap = Heaps.of(4, 8);
        heap.make(0, 0, 4);
        heap.make(1, 0, 4);
        heap.drop(0);
        CHECK.yes("make(2, 0, 2)", heap.make(2, 0, 2));
        CHECK.same("root(2) in the second PAGE", heap.root(2), 13);
        CHECK.yes("make(3, 0, 4)", heap.make(3, 0, 4));
        CHECK.same("root(1) was moved", heap.root(1), 16);
        CHECK.same("root(2) was moved", heap.root(2), 21);
        CHECK.same("root(3) needs a PAGE of its own", heap.root(3), 0);
        heap.drop(2);
        CHECK.yes("make(4, 0, 2)", heap.make(4, 0, 2));
        CHECK.same("root(4)", heap.root(4), 5);
        heap.drop(4);
        heap.drop(3);
        CHECK.yes("make(5, 0, 2)", heap.make(5, 0, 2));
        CHECK.same("root(1) was moved again", heap.root(1), 8);
        CHECK.same("root(5) comes behind it", heap.root(5), 13);
    }

    // A collection may leave more than half of the PAGES USED; only taking a PAGE is barred then.
    private static void openPageIsAskedOverHalf() {
        LooseHeap heap = Heaps.of(5, 8);
        heap.make(0, 0, 4);
        heap.make(2, 0, 2);
        heap.make(1, 0, 4);
        heap.make(3, 0, 2);
        CHECK.same("collect()", heap.collect(), 3);
        CHECK.same("root(3)", heap.root(3), 32);
        CHECK.yes("make(4, 0, 4)", heap.make(4, 0, 4));
        CHECK.same("root(4)", heap.root(4), 35);
        CHECK.same("look(6)", heap.look(6), 1);
        CHECK.no("make(5, 0, 0)", heap.make(5, 0, 0));
        CHECK.same("look(7)", heap.look(7), 1);
    }

    private static void rootKeepsItsObject() {
        LooseHeap heap = Heaps.of(4, 8);
        heap.make(0, 0, 7);
        heap.make(1, 0, 7);
        heap.set(0, 3, 99);
        CHECK.no("make(0, 0, 7)", heap.make(0, 0, 7));
        CHECK.same("root(0) was moved", heap.root(0), 16);
        CHECK.same("its DATA came with it", heap.word(20), 99);
        heap.drop(1);
        CHECK.yes("make(0, 0, 6)", heap.make(0, 0, 6));
        CHECK.same("the old one was still there", heap.look(4), 2);
        CHECK.same("root(0)", heap.root(0), 8);
    }

    private static void givenUpMakesNothing() {
        LooseHeap heap = Heaps.of(4, 8);
        heap.make(0, 0, 4);
        heap.make(2, 0, 2);
        heap.make(1, 0, 4);
        heap.make(3, 0, 2);
        CHECK.no("make(0, 0, 0)", heap.make(0, 0, 0));
        CHECK.same("look(7)", heap.look(7), 1);
        CHECK.same("look(6)", heap.look(6), 0);
        CHECK.same("root(0)", heap.root(0), 0);
        CHECK.same("root(3)", heap.root(3), 13);
        CHECK.same("look(3)", heap.look(3), 1);
    }

    // Enough PAGES are FREE for a LONG one, but not behind one another.
    private static void collectionForWantOfARow() {
        LooseHeap heap = Heaps.of(16, 8);
        leaveFourNineThirteen(heap);
        CHECK.yes("4 PAGES find a row", heap.make(10, 0, 31));
        CHECK.same("root(10)", heap.root(10), 0);
        heap.drop(10);
        heap.collect();
        int before = heap.look(6);
        CHECK.no("5 PAGES find none", heap.make(10, 0, 32));
        CHECK.same("for all the collection", heap.look(6), before + 1);
        heap.loose(2, -1);
        CHECK.yes("5 PAGES behind a collection that frees 13", heap.make(10, 0, 32));
        CHECK.same("root(10) has 10 to 14", heap.root(10), 80);
        CHECK.same("look(6)", heap.look(6), before + 2);
    }

    private static void leaveFourNineThirteen(LooseHeap heap) {
        makeWholePages(heap, 8);
        heap.loose(0, 32);
        Heaps.dropBelow(heap, 6);
        CHECK.same("PAGES 6 and 7 come to 8 and 9", heap.collect(), 3);
        heap.loose(1, 79);
        Heaps.dropBelow(heap, 8);
        CHECK.same("4 and 9 are left", heap.collect(), 2);
        makeWholePages(heap, 6);
        CHECK.same("six come to 7, 8 and 10 to 13", heap.collect(), 8);
        CHECK.same("root(5)", heap.root(5), 104);
        heap.loose(2, 104);
        Heaps.dropBelow(heap, 8);
        CHECK.same("4, 9 and 13 are left", heap.collect(), 3);
    }

    private static void makeWholePages(LooseHeap heap, int count) {
        for (int r = 0; r < count; r++) {
            CHECK.yes("make(" + r + ", 0, 7)", heap.make(r, 0, 7));
        }
    }

    private static void wrongArguments() {
        int[][] wrong = {{-1, 0, 0}, {32, 0, 0}, {0, -1, 0}, {0, 32, 0}, {0, 0, -1}, {0, 0, 201},
            {Integer.MIN_VALUE, 0, 0}, {Integer.MAX_VALUE, 0, 0}, {0, Integer.MAX_VALUE, 0},
            {0, Integer.MIN_VALUE, 0}, {0, 0, Integer.MAX_VALUE}, {0, 0, Integer.MIN_VALUE}};
        for (int[] w : wrong) {
            LooseHeap heap = Heaps.of(4, 8);
            heap.make(0, 1, 1);
            CHECK.refused("make(" + w[0] + ", " + w[1] + ", " + w[2] + ")", heap,
                    IllegalArgumentException.class, () -> heap.make(w[0], w[1], w[2]));
        }
    }
}
