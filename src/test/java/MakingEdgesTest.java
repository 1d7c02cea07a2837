/** The edges that term 2 and promise 3 name, sentence by sentence. */
public final class MakingEdgesTest {
    private static final Check CHECK = new Check();

    private MakingEdgesTest() {
    }

    public static void main(String[] args) {
        justSizeWordsLeft();
        oneWordTooFewLeft();
        leastFreePageBelowTheOpenOne();
        leastFreePageBetweenUsedOnes();
        longOneTakesTheFirstRow();
        longRowUpToTheLastPage();
        noRowRoundTheEnd();
        halfOfThePagesForSmallOnes();
        halfOfThePagesForALongOne();
        halfWithOthersThere();
        openPageAsksForNoHalf();
        collectionOnlyIfItCantBe();
        collectionMakesRoomForASmallOne();
        collectionMakesRoomForALongOne();
        nothingIsMadeBehindACollection();
        nothingIsMadeBehindOneGivenUp();
        openPageAskedAgainFitsJust();
        openPageAskedAgainOneShort();
        noOpenPageBehindTheCollection();
        hitOpenPageTakesNoMore();
        rootsOwnObjectIsKept();
        rootsOwnObjectIsToldElsewhere();
        refsAndDataOfANewOne();
        firstAndLastArguments();
        refusedArguments();
        CHECK.end();
    }

    // "it comes behind those of the OPEN PAGE, if there is one with SIZE WORDS left".
    private static void justSizeWordsLeft() {
        for (int size = 1; size < 8; size++) {
            LooseHeap heap = Heaps.of(4, 8);
            heap.make(0, 0, 7 - size);
            heap.make(1, 0, size - 1);
            CHECK.same("SIZE " + size + " of " + size + " left: root(1)", heap.root(1), 8 - size);
            CHECK.same("SIZE " + size + " of " + size + " left: look(2)", heap.look(2), 1);
            CHECK.same("SIZE " + size + " of " + size + " left: look(3)", heap.look(3), 0);
        }
    }

    // "else the FREE PAGE with the least number is USED and OPEN, and it comes there".
    private static void oneWordTooFewLeft() {
        for (int size = 1; size <= 8; size++) {
            LooseHeap heap = Heaps.of(4, 8);
            heap.make(0, 0, 8 - size);
            heap.make(1, 0, size - 1);
            String name = "SIZE " + size + " of " + (size - 1) + " left: ";
            CHECK.same(name + "root(1)", heap.root(1), 8);
            CHECK.same(name + "look(2)", heap.look(2), 2);
            CHECK.same(name + "look(3)", heap.look(3), 1);
            CHECK.same(name + "look(6)", heap.look(6), 0);
        }
    }

    private static void leastFreePageBelowTheOpenOne() {
        LooseHeap heap = Heaps.of(8, 8);
        heap.make(0, 0, 7);
        heap.make(1, 0, 7);
        heap.drop(1);
        heap.collect();
        CHECK.same("look(3)", heap.look(3), 2);
        heap.make(2, 0, 0);
        CHECK.same("root(2)", heap.root(2), 0);
        CHECK.same("look(3)", heap.look(3), 0);
    }

    private static void leastFreePageBetweenUsedOnes() {
        LooseHeap heap = Heaps.withThreeSevenElevenUsed();
        int[] roots = {0, 8, 16, 32, 40};
        Heaps.fillPages(heap, 5);
        for (int r = 0; r < roots.length; r++) {
            CHECK.same("root(" + r + ")", heap.root(r), roots[r]);
        }
    }

    // "A LONG one: the first row of as many FREE PAGES as it needs": also if a later one fits
    // better, and never a part of a row that is too short.
    private static void longOneTakesTheFirstRow() {
        int[] pagesOf = {2, 3};
        for (int need : pagesOf) {
            LooseHeap heap = Heaps.withThreeSevenElevenUsed();
            heap.make(0, 0, 8 * need - 1);
            CHECK.same(need + " PAGES: root(0)", heap.root(0), 0);
            heap.make(1, 0, 15);
            CHECK.same("two more: root(1)", heap.root(1), 32);
        }
    }

    private static void longRowUpToTheLastPage() {
        LooseHeap heap = Heaps.withThreeSevenElevenUsed();
        CHECK.same("look(2)", heap.look(2), 3);
        CHECK.yes("4 PAGES", heap.make(0, 0, 31));
        CHECK.same("root(0)", heap.root(0), 12 * 8);
        CHECK.same("page(12, 0)", heap.page(12, 0), 2);
        CHECK.same("page(15, 0)", heap.page(15, 0), 3);
        CHECK.same("look(6)", heap.look(6), 2);
        heap.set(0, 30, 5);
        CHECK.same("word(127)", heap.word(127), 5);
    }

    // PAGES "one behind the other": those at the end and those at the beginning are no row.
    private static void noRowRoundTheEnd() {
        LooseHeap heap = Heaps.withThreeSevenElevenUsed();
        CHECK.no("5 PAGES of 13 FREE ones", heap.make(0, 0, 32));
        CHECK.same("there was a collection: look(6)", heap.look(6), 3);
        CHECK.same("look(2)", heap.look(2), 3);
        CHECK.same("root(0)", heap.root(0), -1);
        heap.loose(2, -1);
        CHECK.yes("5 PAGES behind a collection", heap.make(0, 0, 32));
        CHECK.same("root(0)", heap.root(0), 8 * 8);
    }

    // "only if at most half of all PAGES (cut) are USED then, with those that are taken".
    private static void halfOfThePagesForSmallOnes() {
        for (int pages = 4; pages <= 64; pages++) {
            LooseHeap heap = Heaps.of(pages, 8);
            int half = pages / 2;
            Heaps.fillPages(heap, half);
            CHECK.same(pages + " PAGES: look(2)", heap.look(2), half);
            CHECK.same(pages + " PAGES: look(6)", heap.look(6), 0);
            CHECK.no(pages + " PAGES: one more", heap.make(0, 0, 0));
            CHECK.same(pages + " PAGES: look(2)", heap.look(2), half);
            CHECK.same(pages + " PAGES: look(6)", heap.look(6), 1);
        }
    }

    private static void halfOfThePagesForALongOne() {
        for (int pages = 4; pages <= 57; pages++) {
            int half = pages / 2;
            LooseHeap just = Heaps.of(pages, 8);
            CHECK.yes(pages + " PAGES: just half", just.make(0, refs(8 * half), data(8 * half)));
            CHECK.same(pages + " PAGES: look(2)", just.look(2), half);
            CHECK.same(pages + " PAGES: look(6)", just.look(6), 0);
            LooseHeap more = Heaps.of(pages, 8);
            CHECK.no(pages + " PAGES: one more", more.make(0, refs(8 * half + 1), data(8 * half + 1)));
            CHECK.same(pages + " PAGES: look(2)", more.look(2), 0);
            CHECK.same(pages + " PAGES: look(6)", more.look(6), 1);
            CHECK.same(pages + " PAGES: root(0)", more.root(0), -1);
        }
    }

    private static int refs(int size) {
        return Math.max(0, size - 201);
    }

    private static int data(int size) {
        return size - 1 - refs(size);
    }

    private static void halfWithOthersThere() {
        LooseHeap heap = Heaps.of(9, 8);
        heap.make(0, 0, 0);
        CHECK.yes("1 and 3 of 9", heap.make(1, 0, 23));
        CHECK.same("look(6)", heap.look(6), 0);
        LooseHeap more = Heaps.of(9, 8);
        more.make(0, 0, 0);
        CHECK.no("1 and 4 of 9", more.make(1, 0, 24));
        CHECK.same("look(6)", more.look(6), 1);
        CHECK.same("look(2)", more.look(2), 1);
    }

    // "A PAGE may be taken for this only if": the OPEN one is not taken.
    private static void openPageAsksForNoHalf() {
        LooseHeap heap = Heaps.of(4, 8);
        heap.make(0, 0, 7);
        heap.make(1, 0, 3);
        CHECK.yes("half are USED", heap.make(2, 0, 2));
        CHECK.yes("and it fills up", heap.make(3, 0, 0));
        CHECK.same("root(3)", heap.root(3), 15);
        CHECK.same("look(6)", heap.look(6), 0);
        CHECK.no("till it is full", heap.make(4, 0, 0));
        CHECK.same("look(6)", heap.look(6), 1);
    }

    // "If that can't be, there is a COLLECTION": else there is none, whatever is garbage.
    private static void collectionOnlyIfItCantBe() {
        LooseHeap heap = Heaps.of(8, 8);
        for (int k = 0; k < 4; k++) {
            heap.make(0, 0, 7);
        }
        CHECK.same("look(6)", heap.look(6), 0);
        CHECK.same("look(4)", heap.look(4), 4);
        CHECK.yes("a fifth", heap.make(0, 0, 7));
        CHECK.same("look(6)", heap.look(6), 1);
        CHECK.same("look(4)", heap.look(4), 2);
    }

    private static void collectionMakesRoomForASmallOne() {
        LooseHeap heap = Heaps.of(4, 8);
        Heaps.fillPages(heap, 2);
        heap.drop(0);
        CHECK.yes("make(2, 0, 7)", heap.make(2, 0, 7));
        CHECK.same("root(1)", heap.root(1), 16);
        CHECK.same("root(2)", heap.root(2), 0);
        CHECK.same("look(2)", heap.look(2), 2);
        CHECK.same("look(3)", heap.look(3), 0);
    }

    private static void collectionMakesRoomForALongOne() {
        LooseHeap heap = Heaps.of(8, 8);
        Heaps.fillPages(heap, 3);
        heap.drop(0);
        heap.drop(2);
        CHECK.yes("3 PAGES beside 1", heap.make(4, 0, 23));
        CHECK.same("root(1)", heap.root(1), 24);
        CHECK.same("root(4)", heap.root(4), 0);
        CHECK.same("look(2)", heap.look(2), 4);
        CHECK.same("the TARGET is still OPEN", heap.look(3), 3);
    }

    // "and if it can't be then, nothing is made".
    private static void nothingIsMadeBehindACollection() {
        LooseHeap heap = Heaps.of(4, 8);
        Heaps.fillPages(heap, 2);
        heap.set(0, 6, 60);
        CHECK.no("a SMALL one", heap.make(5, 1, 1));
        CHECK.same("look(4)", heap.look(4), 2);
        CHECK.same("look(6)", heap.look(6), 1);
        CHECK.same("root(5)", heap.root(5), -1);
        CHECK.same("root(0)", heap.root(0), 16);
        CHECK.same("word(23)", heap.word(23), 60);
        CHECK.no("a LONG one", heap.make(5, 1, 7));
        CHECK.same("look(4)", heap.look(4), 2);
        CHECK.same("look(6)", heap.look(6), 2);
        CHECK.same("root(0)", heap.root(0), 0);
    }

    // "(also if the COLLECTION was GIVEN UP)".
    private static void nothingIsMadeBehindOneGivenUp() {
        int[][] sizes = {{0, 0}, {1, 6}, {1, 7}, {31, 200}};
        for (int[] size : sizes) {
            LooseHeap heap = Heaps.thatGivesUp();
            String due = Picture.of(heap).replace("look 7: 0\n", "look 7: 1\n");
            String name = "make(0, " + size[0] + ", " + size[1] + ")";
            CHECK.no(name, heap.make(0, size[0], size[1]));
            CHECK.same(name + " changes look(7) alone:", Picture.of(heap), due);
        }
    }

    // "(The OPEN PAGE may be another one behind the COLLECTION; it is asked first again.)"
    private static void openPageAskedAgainFitsJust() {
        LooseHeap heap = twoPagesOfWhichFourWordsAreLive();
        CHECK.yes("make(5, 0, 3)", heap.make(5, 0, 3));
        CHECK.same("root(5) behind what was moved", heap.root(5), 20);
        CHECK.same("look(2)", heap.look(2), 1);
        CHECK.same("look(3)", heap.look(3), 2);
        CHECK.same("page(2, 1)", heap.page(2, 1), 8);
    }

    private static void openPageAskedAgainOneShort() {
        LooseHeap heap = twoPagesOfWhichFourWordsAreLive();
        CHECK.yes("make(5, 0, 4)", heap.make(5, 0, 4));
        CHECK.same("root(5) on a PAGE of its own", heap.root(5), 0);
        CHECK.same("look(2)", heap.look(2), 2);
        CHECK.same("look(3)", heap.look(3), 0);
    }

    private static LooseHeap twoPagesOfWhichFourWordsAreLive() {
        LooseHeap heap = Heaps.of(4, 8);
        heap.make(0, 0, 3);
        heap.make(1, 0, 3);
        heap.make(2, 0, 7);
        heap.drop(1);
        heap.drop(2);
        return heap;
    }

    private static void noOpenPageBehindTheCollection() {
        LooseHeap heap = Heaps.of(6, 8);
        heap.make(0, 0, 8);
        heap.make(1, 0, 7);
        heap.drop(1);
        CHECK.yes("make(2, 0, 4)", heap.make(2, 0, 4));
        CHECK.same("root(2)", heap.root(2), 16);
        CHECK.same("look(3)", heap.look(3), 2);
        CHECK.same("look(11)", heap.look(11), 0);
    }

    // A HIT PAGE that was OPEN takes no more behind the collection, though it has room.
    private static void hitOpenPageTakesNoMore() {
        LooseHeap heap = Heaps.of(4, 8);
        heap.make(0, 0, 7);
        heap.make(1, 0, 0);
        heap.loose(0, 8);
        heap.drop(0);
        CHECK.yes("make(2, 0, 7)", heap.make(2, 0, 7));
        CHECK.same("root(2)", heap.root(2), 0);
        heap.loose(1, 0);
        CHECK.no("7 WORDS are left in PAGE 1", heap.make(3, 0, 0));
        CHECK.same("look(3)", heap.look(3), -1);
        CHECK.same("page(1, 1)", heap.page(1, 1), 1);
    }

    // "(EXACT ROOT r has what it had while there is a COLLECTION, and behind it, if nothing is
    // made.)"
    private static void rootsOwnObjectIsKept() {
        LooseHeap heap = Heaps.of(4, 8);
        Heaps.fillPages(heap, 2);
        heap.set(1, 0, 31);
        CHECK.no("make(1, 0, 0)", heap.make(1, 0, 0));
        CHECK.same("root(1)", heap.root(1), 24);
        CHECK.same("word(25)", heap.word(25), 31);
        heap.drop(0);
        CHECK.yes("make(1, 0, 0)", heap.make(1, 0, 0));
        CHECK.same("look(9): the old one was in the ROW", heap.look(9), 1);
        CHECK.same("root(1)", heap.root(1), 8);
        CHECK.same("the old one lies there still", heap.word(1), 31);
        heap.collect();
        CHECK.same("till the next collection", heap.look(4), 1);
    }

    private static void rootsOwnObjectIsToldElsewhere() {
        LooseHeap heap = Heaps.of(4, 8);
        heap.make(0, 1, 6);
        heap.copy(0, 9);
        heap.make(0, 1, 6);
        heap.link(9, 0, 0);
        heap.drop(9);
        CHECK.yes("make(0, 0, 0)", heap.make(0, 0, 0));
        CHECK.same("root(0)", heap.root(0), 0);
        CHECK.same("look(4)", heap.look(4), 2);
        CHECK.same("look(10)", heap.look(10), 1);
        CHECK.same("word(16)", heap.word(16), 262);
    }

    // "its REFS are NONE, its DATA 0; EXACT ROOT r has it then".
    private static void refsAndDataOfANewOne() {
        LooseHeap heap = Heaps.of(64, 8);
        heap.make(4, 31, 200);
        CHECK.same("root(4)", heap.root(4), 0);
        for (int i = 0; i < 31; i++) {
            CHECK.same("follow(4, " + i + ", 5)", heap.follow(4, i, 5), -1);
        }
        for (int i = 0; i < 200; i++) {
            CHECK.same("set(4, " + i + ", 1)", heap.set(4, i, 1), 0);
        }
        CHECK.same("root(3)", heap.root(3), -1);
        CHECK.same("root(5)", heap.root(5), -1);
    }

    private static void firstAndLastArguments() {
        int[] roots = {0, 31};
        int[] refs = {0, 31};
        int[] data = {0, 200};
        for (int r : roots) {
            for (int f : refs) {
                for (int d : data) {
                    LooseHeap heap = Heaps.of(64, 64);
                    CHECK.yes("make(" + r + ", " + f + ", " + d + ")", heap.make(r, f, d));
                    CHECK.same("root(" + r + ")", heap.root(r), 0);
                    CHECK.same("object(0, 2)", heap.object(0, 2), 1 + f + d);
                }
            }
        }
    }

    // "there is no such EXACT ROOT, refs is not 0 to 31, or data not 0 to 200": no collection
    // either, though there is no room.
    private static void refusedArguments() {
        int low = Integer.MIN_VALUE;
        int high = Integer.MAX_VALUE;
        int[][] wrong = {{-1, 1, 1}, {32, 1, 1}, {low, 1, 1}, {high, 1, 1}, {1, -1, 1}, {1, 32, 1},
            {1, low, 1}, {1, high, 1}, {1, 1, -1}, {1, 1, 201}, {1, 1, low}, {1, 1, high},
            {-1, -1, -1}, {32, 32, 201}, {1, high, high}, {1, 32, -32}, {1, -1, 200}, {1, 256, 0}};
        for (int[] w : wrong) {
            LooseHeap heap = Heaps.of(4, 8);
            Heaps.fillPages(heap, 2);
            CHECK.refused("make(" + w[0] + ", " + w[1] + ", " + w[2] + ")", heap,
                    IllegalArgumentException.class, () -> heap.make(w[0], w[1], w[2]));
        }
    }
}
