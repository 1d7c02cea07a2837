/** The edges that term 3 and promise 11 name, sentence by sentence. */
public final class CollectionEdgesTest {
    private static final Check CHECK = new Check();

    private CollectionEdgesTest() {
    }

    public static void main(String[] args) {
        hitByEachWordOfAPage();
        hitByNoAddress();
        freePageIsNotHit();
        lastPageIsHit();
        longOneIsHitByEachOfItsWords();
        everyLooseRootHits();
        pageHitTwiceCountsOnce();
        allPagesAreHit();
        hitOnesByTheirAddresses();
        hitOnesThatNothingTells();
        objectAheadOfAHitPage();
        hundredsInTheRow();
        rootsInTheirOrder();
        refsInTheirOrder();
        longChain();
        toldOftenMovedOnce();
        itselfAndRing();
        longOneStaysAndIsAsked();
        longOneThatNothingTells();
        longOneHitAndTold();
        targetWithJustSizeLeft();
        targetOneWordTooSmall();
        targetSkipsUsedPages();
        lastFreePageIsEnough();
        onePageTooFewAmongRoots();
        onePageTooFewAmongRefs();
        givenUpWithoutAnEarlierOne();
        givenUpKeepsTheEarlierOnesCounts();
        allThatToldIsToldAnew();
        looseRootsStay();
        pagesAreFreed();
        targetIsOpen();
        noTargetNoneOpen();
        nothingThere();
        CHECK.end();
    }

    private static void latest(String name, LooseHeap heap, int... due) {
        for (int k = 0; k < due.length; k++) {
            CHECK.same(name + ": look(" + (8 + k) + ")", heap.look(8 + k), due[k]);
        }
    }

    // "HIT is each USED PAGE in which the int of a LOOSE ROOT is an ADDRESS": whether an object
    // lies at that WORD, begins there, or none does.
    private static void hitByEachWordOfAPage() {
        for (int v = 0; v < 24; v++) {
            LooseHeap heap = Heaps.of(8, 8);
            heap.make(0, 0, 4);
            heap.make(1, 0, 4);
            heap.make(2, 0, 4);
            heap.loose(0, v);
            CHECK.same("collect()", heap.collect(), 3);
            for (int p = 0; p < 3; p++) {
                boolean hit = v / 8 == p;
                CHECK.same(v + ": page(" + p + ", 3)", heap.page(p, 3), hit ? 1 : 0);
                CHECK.yes(v + ": root(" + p + ")", heap.root(p) == 8 * p == hit);
            }
            latest(v + "", heap, 1, 3, 2, 2, 2);
        }
    }

    private static void hitByNoAddress() {
        int[] none = {-1, -2, -7, -8, -9, -32, -64, 64, 65, 71, 72, 128, 1 << 16, 1 << 30,
            Integer.MAX_VALUE, Integer.MAX_VALUE - 7, Integer.MIN_VALUE, Integer.MIN_VALUE + 1,
            Integer.MIN_VALUE + 8};
        for (int v : none) {
            LooseHeap heap = Heaps.of(8, 8);
            heap.make(0, 0, 7);
            heap.make(1, 0, 7);
            for (int r = 0; r < 32; r++) {
                heap.loose(r, v);
            }
            CHECK.same(v + ": collect()", heap.collect(), 2);
            CHECK.same(v + ": root(0)", heap.root(0), 16);
            latest(v + "", heap, 0, 2, 2, 2, 2);
        }
    }

    // "each USED PAGE": one that is FREE ahead of the collection is not HIT, though it is taken.
    private static void freePageIsNotHit() {
        for (int v = 8; v < 32; v++) {
            LooseHeap heap = Heaps.of(4, 8);
            heap.make(0, 0, 2);
            heap.loose(0, v);
            CHECK.same(v + ": collect()", heap.collect(), 1);
            CHECK.same(v + ": root(0)", heap.root(0), 8);
            CHECK.same(v + ": page(1, 3)", heap.page(1, 3), 0);
            latest(v + "", heap, 0, 1, 1, 1, 1);
        }
    }

    private static void lastPageIsHit() {
        LooseHeap heap = Heaps.of(64, 64);
        Heaps.fillPages(heap, 32);
        heap.collect();
        heap.loose(31, 4095);
        CHECK.same("collect()", heap.collect(), 32);
        CHECK.same("page(63, 3)", heap.page(63, 3), 1);
        CHECK.same("root(31)", heap.root(31), 63 * 64);
        CHECK.same("root(30)", heap.root(30), 30 * 64);
        latest("4095", heap, 1, 32, 31, 31, 31);
        heap.loose(31, 4096);
        heap.collect();
        CHECK.same("root(31)", heap.root(31), 62 * 64);
        CHECK.same("page(63, 3)", heap.page(63, 3), 0);
    }

    // "with one PAGE of a LONG OBJECT all its PAGES": and no PAGE of the one ahead or behind.
    private static void longOneIsHitByEachOfItsWords() {
        for (int v = 0; v < 64; v++) {
            LooseHeap heap = Heaps.of(16, 8);
            heap.make(0, 0, 15);
            heap.make(1, 0, 16);
            heap.make(2, 0, 8);
            Heaps.dropBelow(heap, 3);
            heap.loose(7, v);
            int first = v < 16 ? 0 : v < 40 ? 2 : v < 56 ? 5 : 7;
            int behind = v < 16 ? 2 : v < 40 ? 5 : 7;
            CHECK.same(v + ": collect()", heap.collect(), behind - first);
            for (int p = 0; p < 8; p++) {
                int due = p >= first && p < behind ? 1 : 0;
                CHECK.same(v + ": page(" + p + ", 3)", heap.page(p, 3), due);
                CHECK.same(v + ": page(" + p + ", 0)", heap.page(p, 0),
                        due == 0 ? 0 : p == first ? 2 : 3);
            }
            latest(v + "", heap, behind - first, first == behind ? 0 : 1, 0, 0, 7 - behind + first);
        }
    }

    private static void everyLooseRootHits() {
        for (int r = 0; r < 32; r++) {
            LooseHeap heap = Heaps.of(4, 8);
            heap.make(0, 0, 0);
            heap.loose(r, 7);
            heap.collect();
            CHECK.same("LOOSE ROOT " + r + ": page(0, 3)", heap.page(0, 3), 1);
            CHECK.same("LOOSE ROOT " + r + ": root(0)", heap.root(0), 0);
        }
    }

    private static void pageHitTwiceCountsOnce() {
        LooseHeap heap = Heaps.of(8, 8);
        heap.make(0, 0, 16);
        heap.make(1, 0, 0);
        for (int r = 0; r < 32; r++) {
            heap.loose(r, r);
        }
        CHECK.same("collect()", heap.collect(), 4);
        latest("32 LOOSE ROOTS", heap, 4, 2, 0, 0, 0);
    }

    private static void allPagesAreHit() {
        LooseHeap heap = Heaps.of(64, 8);
        Heaps.fillPages(heap, 32);
        for (int r = 0; r < 32; r++) {
            heap.loose(r, 8 * r + 7);
        }
        CHECK.same("collect()", heap.collect(), 32);
        latest("nothing is moved", heap, 32, 32, 0, 0, 0);
        CHECK.same("look(3)", heap.look(3), -1);
        for (int r = 0; r < 32; r++) {
            CHECK.same("root(" + r + ")", heap.root(r), 8 * r);
        }
    }

    // "first those on HIT PAGES, by their ADDRESSES": not in the order of the LOOSE ROOTS.
    private static void hitOnesByTheirAddresses() {
        LooseHeap heap = Heaps.of(12, 8);
        heap.make(0, 0, 2);
        heap.make(1, 0, 2);
        heap.make(2, 0, 1);
        heap.make(3, 1, 6);
        heap.make(4, 1, 2);
        heap.make(5, 1, 2);
        heap.link(3, 0, 2);
        heap.link(4, 0, 1);
        heap.link(5, 0, 0);
        Heaps.dropBelow(heap, 6);
        heap.loose(0, 16);
        heap.loose(1, 15);
        heap.collect();
        CHECK.same("of the one at 8", heap.word(9), 24);
        CHECK.same("of the one at 16", heap.word(17), 26);
        CHECK.same("of the one at 20", heap.word(21), 29);
        latest("six in the ROW", heap, 2, 6, 3, 1, 1);
    }

    // "those on HIT PAGES ... these stay": also what nothing tells, and what that tells.
    private static void hitOnesThatNothingTells() {
        LooseHeap heap = Heaps.of(8, 8);
        heap.make(0, 1, 2);
        heap.make(1, 0, 3);
        heap.make(2, 0, 7);
        heap.link(0, 0, 2);
        heap.set(0, 1, 5);
        Heaps.dropBelow(heap, 3);
        heap.loose(0, 4);
        CHECK.same("collect()", heap.collect(), 2);
        CHECK.same("page(0, 2)", heap.page(0, 2), 2);
        CHECK.same("word(1)", heap.word(1), 16);
        CHECK.same("word(3)", heap.word(3), 5);
        CHECK.yes("take(0, 9)", heap.take(0, 9));
        heap.loose(0, -1);
        CHECK.same("collect()", heap.collect(), 2);
        CHECK.same("look(4): the other one is no more", heap.look(4), 2);
    }

    // An object at the last WORD of the PAGE ahead of a HIT one does not stay with it.
    private static void objectAheadOfAHitPage() {
        LooseHeap heap = Heaps.of(8, 8);
        heap.make(0, 0, 6);
        heap.make(1, 0, 0);
        heap.make(2, 0, 0);
        heap.loose(0, 8);
        CHECK.same("collect()", heap.collect(), 2);
        CHECK.same("root(0)", heap.root(0), 16);
        CHECK.same("root(1)", heap.root(1), 23);
        CHECK.same("root(2)", heap.root(2), 8);
        latest("two are moved", heap, 1, 3, 2, 1, 1);
    }

    // As many objects as can be made in a heap's 512 calls beside those that are needed here.
    private static void hundredsInTheRow() {
        LooseHeap heap = Heaps.of(64, 64);
        for (int k = 0; k < 490; k++) {
            heap.make(0, 0, 0);
        }
        for (int p = 0; p < 8; p++) {
            heap.loose(p, 64 * p + 63);
        }
        CHECK.same("collect()", heap.collect(), 8);
        latest("all PAGES are HIT", heap, 8, 490, 0, 0, 0);
        CHECK.same("look(4)", heap.look(4), 490);
        CHECK.same("root(0)", heap.root(0), 489);
    }

    // "EXACT ROOT by EXACT ROOT in their order".
    private static void rootsInTheirOrder() {
        LooseHeap heap = Heaps.of(8, 32);
        for (int r = 31; r >= 0; r--) {
            heap.make(r, 0, 0);
        }
        heap.collect();
        for (int r = 0; r < 32; r++) {
            CHECK.same("root(" + r + ")", heap.root(r), 32 + r);
        }
    }

    // "and then REF by REF of each OBJECT of the ROW, from its beginning on": all roots are asked
    // ahead of the first REF, and all REFS of one object ahead of those of the next.
    private static void refsInTheirOrder() {
        LooseHeap heap = Heaps.of(4, 64);
        heap.make(0, 31, 0);
        for (int i = 30; i >= 0; i--) {
            heap.make(1, 0, 0);
            heap.link(0, i, 1);
        }
        heap.make(31, 1, 0);
        heap.make(1, 0, 0);
        heap.link(31, 0, 1);
        heap.drop(1);
        heap.collect();
        CHECK.same("root(0)", heap.root(0), 128);
        CHECK.same("root(31)", heap.root(31), 160);
        for (int i = 0; i < 30; i++) {
            CHECK.same("REF " + i, heap.word(129 + i), 162 + i);
        }
        CHECK.same("REF 30 found no room", heap.word(159), 192);
        CHECK.same("REF of root 31", heap.word(161), 193);
    }

    // "(also of those that came to it meanwhile)".
    private static void longChain() {
        LooseHeap heap = Heaps.of(64, 8);
        for (int k = 0; k < 100; k++) {
            heap.make(1, 1, 0);
            heap.link(1, 0, 0);
            heap.copy(1, 0);
        }
        heap.drop(1);
        CHECK.same("collect()", heap.collect(), 25);
        latest("a chain", heap, 0, 100, 100, 25, 25);
        CHECK.same("root(0)", heap.root(0), 200);
        for (int k = 1; k < 100; k++) {
            CHECK.same("the next", heap.follow(0, 0, 0), 200 + 2 * k);
        }
        CHECK.same("the last", heap.follow(0, 0, 0), -1);
    }

    // "each OBJECT that is told there and is not in the ROW".
    private static void toldOftenMovedOnce() {
        LooseHeap heap = Heaps.of(4, 64);
        heap.make(0, 31, 0);
        heap.make(1, 0, 0);
        for (int i = 0; i < 31; i++) {
            heap.link(0, i, 1);
        }
        for (int r = 2; r < 32; r++) {
            heap.copy(1, r);
        }
        heap.collect();
        latest("two objects", heap, 0, 2, 2, 1, 1);
        for (int r = 1; r < 32; r++) {
            CHECK.same("root(" + r + ")", heap.root(r), 96);
        }
        for (int a = 65; a < 96; a++) {
            CHECK.same("word(" + a + ")", heap.word(a), 96);
        }
    }

    private static void itselfAndRing() {
        LooseHeap heap = Heaps.of(4, 8);
        heap.make(0, 1, 0);
        heap.link(0, 0, 0);
        heap.make(1, 1, 0);
        heap.make(2, 1, 0);
        heap.link(1, 0, 2);
        heap.link(2, 0, 1);
        heap.drop(1);
        CHECK.same("collect()", heap.collect(), 1);
        CHECK.same("itself", heap.word(9), 8);
        CHECK.same("one of the ring", heap.word(11), 12);
        CHECK.same("the other", heap.word(13), 10);
        Heaps.dropBelow(heap, 3);
        CHECK.same("collect()", heap.collect(), 0);
        latest("nothing tells them", heap, 0, 0, 0, 0, 1);
    }

    // "a LONG one stays": and is of the ROW, so its REFS are asked, the first and the last.
    private static void longOneStaysAndIsAsked() {
        LooseHeap heap = Heaps.of(16, 8);
        heap.make(0, 0, 1);
        heap.make(1, 0, 2);
        heap.make(2, 31, 0);
        heap.link(2, 0, 1);
        heap.link(2, 30, 0);
        heap.make(3, 1, 0);
        heap.link(3, 0, 2);
        Heaps.dropBelow(heap, 3);
        CHECK.same("collect()", heap.collect(), 5);
        CHECK.same("root(3)", heap.root(3), 40);
        CHECK.same("its REF tells the LONG one", heap.word(41), 8);
        CHECK.same("the LONG one's REF 0", heap.word(9), 42);
        CHECK.same("the LONG one's REF 30", heap.word(39), 45);
        latest("a LONG one", heap, 0, 4, 3, 1, 1);
        CHECK.same("page(1, 0)", heap.page(1, 0), 2);
        CHECK.same("page(4, 0)", heap.page(4, 0), 3);
        CHECK.same("page(1, 3)", heap.page(1, 3), 0);
    }

    private static void longOneThatNothingTells() {
        LooseHeap heap = Heaps.of(16, 8);
        heap.make(0, 1, 20);
        heap.make(1, 1, 20);
        heap.link(0, 0, 1);
        heap.link(1, 0, 0);
        Heaps.dropBelow(heap, 2);
        CHECK.same("collect()", heap.collect(), 0);
        latest("two LONG ones", heap, 0, 0, 0, 0, 6);
        for (int a = 0; a < 48; a++) {
            CHECK.same("word(" + a + ")", heap.word(a), 0);
        }
        CHECK.no("take(0, 0)", heap.take(0, 0));
        CHECK.same("page(2, 0)", heap.page(2, 0), 0);
    }

    private static void longOneHitAndTold() {
        LooseHeap heap = Heaps.of(8, 8);
        heap.make(0, 1, 20);
        heap.link(0, 0, 0);
        heap.loose(0, 23);
        CHECK.same("collect()", heap.collect(), 3);
        latest("once in the ROW", heap, 3, 1, 0, 0, 0);
        CHECK.same("root(0)", heap.root(0), 0);
        CHECK.same("word(1)", heap.word(1), 0);
    }

    // "behind what is on the TARGET, if there is one with SIZE WORDS left".
    private static void targetWithJustSizeLeft() {
        for (int size = 1; size < 8; size++) {
            LooseHeap heap = Heaps.of(4, 8);
            heap.make(0, 0, 7 - size);
            heap.make(1, 0, size - 1);
            CHECK.same("SIZE " + size + ": collect()", heap.collect(), 1);
            CHECK.same("SIZE " + size + ": root(1)", heap.root(1), 16 - size);
        }
    }

    // "else the FREE PAGE with the least number becomes the TARGET": an earlier one takes no more.
    private static void targetOneWordTooSmall() {
        LooseHeap heap = Heaps.of(8, 8);
        heap.make(0, 0, 4);
        heap.make(2, 0, 2);
        heap.make(1, 0, 3);
        CHECK.same("collect()", heap.collect(), 2);
        CHECK.same("root(0)", heap.root(0), 16);
        CHECK.same("root(1) has 4 of 3 WORDS", heap.root(1), 24);
        CHECK.same("root(2) has 3 WORDS and comes behind it", heap.root(2), 28);
        CHECK.same("page(2, 1)", heap.page(2, 1), 5);
    }

    // "(one that was not USED ahead of the COLLECTION, and was not taken in it)".
    private static void targetSkipsUsedPages() {
        LooseHeap heap = Heaps.withThreeSevenElevenUsed();
        Heaps.fillPages(heap, 5);
        CHECK.same("collect()", heap.collect(), 8);
        int[] roots = {48, 64, 72, 80, 96};
        for (int r = 0; r < roots.length; r++) {
            CHECK.same("root(" + r + ")", heap.root(r), roots[r]);
        }
        latest("five are moved", heap, 3, 8, 5, 5, 5);
        CHECK.same("look(3)", heap.look(3), 12);
    }

    // "If there is no such PAGE, the COLLECTION is GIVEN UP": not if the last one does.
    private static void lastFreePageIsEnough() {
        for (int pages = 4; pages <= 64; pages += 2) {
            LooseHeap heap = Heaps.of(pages, 8);
            Heaps.fillPages(heap, pages / 2);
            CHECK.same(pages + " PAGES: collect()", heap.collect(), pages / 2);
            CHECK.same(pages + " PAGES: look(7)", heap.look(7), 0);
            CHECK.same(pages + " PAGES: look(3)", heap.look(3), pages - 1);
        }
    }

    // "all is as it was ahead of it".
    private static void onePageTooFewAmongRoots() {
        givesUp("among the roots", Heaps.thatGivesUp());
    }

    // The REFS tell objects of 5, 3 and 3 WORDS behind one of 5; in another order they would fit.
    private static void onePageTooFewAmongRefs() {
        LooseHeap heap = oneThatTellsThree(2, 1, 3);
        givesUp("among the REFS", heap);
        givesUp("among the REFS once more", heap);
        CHECK.same("look(7)", heap.look(7), 2);
        CHECK.same("in another order", oneThatTellsThree(1, 2, 3).collect(), 2);
    }

    private static LooseHeap oneThatTellsThree(int first, int second, int third) {
        LooseHeap heap = Heaps.of(4, 8);
        heap.make(0, 3, 1);
        heap.make(1, 0, 2);
        heap.make(2, 0, 4);
        heap.make(3, 0, 2);
        heap.link(0, 0, first);
        heap.link(0, 1, second);
        heap.link(0, 2, third);
        heap.copy(0, 31);
        Heaps.dropBelow(heap, 4);
        return heap;
    }

    private static void givesUp(String name, LooseHeap heap) {
        int before = heap.look(7);
        String due = Picture.of(heap).replace("look 7: " + before, "look 7: " + (before + 1));
        CHECK.same(name + ": collect()", heap.collect(), -1);
        CHECK.same(name + ", but for look(7) all is as it was:", Picture.of(heap), due);
    }

    // "of the latest that was not (0 without)": one that was given up counts for nothing.
    private static void givenUpWithoutAnEarlierOne() {
        LooseHeap heap = Heaps.thatGivesUp();
        heap.loose(0, 31);
        CHECK.same("collect()", heap.collect(), -1);
        latest("none yet", heap, 0, 0, 0, 0, 0);
        CHECK.same("look(6)", heap.look(6), 0);
        CHECK.same("look(7)", heap.look(7), 1);
        CHECK.same("look(3)", heap.look(3), 1);
    }

    private static void givenUpKeepsTheEarlierOnesCounts() {
        LooseHeap heap = Heaps.thatGivesUp();
        heap.loose(3, 2);
        CHECK.same("collect()", heap.collect(), 2);
        latest("PAGE 0 was HIT", heap, 1, 4, 2, 1, 1);
        heap.loose(3, -1);
        givesUp("PAGE 0 is not HIT", heap);
        latest("those of the earlier one", heap, 1, 4, 2, 1, 1);
        CHECK.same("page(0, 3)", heap.page(0, 3), 1);
        CHECK.same("look(6)", heap.look(6), 1);
        CHECK.same("look(7)", heap.look(7), 1);
        CHECK.same("look(3)", heap.look(3), 2);
        heap.drop(3);
        CHECK.same("with one object less", heap.collect(), 2);
        latest("those of the next one", heap, 0, 3, 3, 2, 2);
        CHECK.same("page(0, 3)", heap.page(0, 3), 0);
    }

    // "What told a MOVED OBJECT (EXACT ROOTS, REFS of those of the ROW) tells its new ADDRESS".
    private static void allThatToldIsToldAnew() {
        LooseHeap heap = Heaps.of(16, 8);
        heap.make(1, 1, 6);
        heap.make(2, 31, 0);
        heap.make(3, 2, 2);
        heap.make(4, 0, 2);
        heap.link(1, 0, 4);
        heap.link(2, 0, 4);
        heap.link(2, 30, 4);
        heap.link(3, 0, 4);
        heap.link(3, 1, 3);
        heap.copy(4, 0);
        heap.copy(4, 31);
        heap.loose(0, 0);
        heap.collect();
        CHECK.same("EXACT ROOT 0", heap.root(0), 48);
        CHECK.same("EXACT ROOT 4", heap.root(4), 48);
        CHECK.same("EXACT ROOT 31", heap.root(31), 48);
        CHECK.same("a REF on a HIT PAGE", heap.word(1), 48);
        CHECK.same("the first REF of a LONG one", heap.word(9), 48);
        CHECK.same("its last", heap.word(39), 48);
        CHECK.same("those between", heap.word(10), -1);
        CHECK.same("a REF of one that is moved", heap.word(52), 48);
        CHECK.same("to itself", heap.word(53), 51);
    }

    // "LOOSE ROOTS stay": also where the PAGE that they point to is FREE behind it, and DATA that
    // are ADDRESSES by chance.
    private static void looseRootsStay() {
        LooseHeap heap = Heaps.of(8, 8);
        heap.make(0, 0, 3);
        heap.set(0, 0, 0);
        heap.set(0, 1, 8);
        heap.set(0, 2, 0);
        heap.loose(0, 8);
        heap.loose(31, 60);
        heap.collect();
        CHECK.same("root(0)", heap.root(0), 8);
        CHECK.same("LOOSE ROOT 0", heap.loose(0, 9), 8);
        CHECK.same("LOOSE ROOT 31", heap.loose(31, 9), 60);
        int[] words = {3, 0, 8, 0};
        for (int k = 0; k < words.length; k++) {
            CHECK.same("word(" + (8 + k) + ")", heap.word(8 + k), words[k]);
        }
    }

    // "PAGES that were USED are FREE, but for HIT ones and those of LONG OBJECTS of the ROW".
    private static void pagesAreFreed() {
        LooseHeap heap = Heaps.of(24, 8);
        heap.make(0, 0, 7);
        heap.make(1, 0, 8);
        heap.make(2, 0, 8);
        heap.make(3, 0, 8);
        heap.make(4, 0, 7);
        heap.make(5, 0, 7);
        heap.drop(2);
        heap.drop(3);
        heap.drop(4);
        heap.loose(0, 47);
        heap.loose(1, 64);
        CHECK.same("collect()", heap.collect(), 6);
        int[] kinds = {0, 2, 3, 0, 0, 2, 3, 0, 1, 1, 0};
        int[] hit = {0, 0, 0, 0, 0, 1, 1, 0, 1, 0, 0};
        for (int p = 0; p < kinds.length; p++) {
            CHECK.same("page(" + p + ", 0)", heap.page(p, 0), kinds[p]);
            CHECK.same("page(" + p + ", 3)", heap.page(p, 3), hit[p]);
        }
        latest("four are freed", heap, 3, 4, 1, 1, 4);
    }

    // "The TARGET is the OPEN PAGE": the latest one, full or not.
    private static void targetIsOpen() {
        LooseHeap heap = Heaps.of(4, 8);
        Heaps.fillPages(heap, 2);
        heap.collect();
        CHECK.same("look(3)", heap.look(3), 3);
        heap.drop(0);
        heap.collect();
        CHECK.same("look(3)", heap.look(3), 0);
        heap.make(2, 0, 0);
        CHECK.same("it is full: root(2)", heap.root(2), 8);
    }

    // "without one none is OPEN".
    private static void noTargetNoneOpen() {
        LooseHeap heap = Heaps.of(8, 8);
        heap.make(0, 0, 8);
        heap.make(1, 0, 0);
        heap.loose(0, 16);
        CHECK.same("collect()", heap.collect(), 3);
        CHECK.same("look(3)", heap.look(3), -1);
        heap.make(2, 0, 0);
        CHECK.same("root(2)", heap.root(2), 24);
        CHECK.same("page(2, 1)", heap.page(2, 1), 1);
    }

    // "how many PAGES are USED then": none of them.
    private static void nothingThere() {
        LooseHeap heap = new LooseHeap();
        for (int k = 1; k <= 3; k++) {
            CHECK.same("collect()", heap.collect(), 0);
            CHECK.same("look(6)", heap.look(6), k);
            latest("nothing", heap, 0, 0, 0, 0, 0);
        }
    }
}
