import java.util.NoSuchElementException;

/**
 * The edges that promises 1, 2, 4 to 10 and 12 to 16 name, sentence by sentence, and "A call that
 * throws changes nothing; of two exceptions the one named first is thrown".
 */
public final class CallEdgesTest {
    private static final Check CHECK = new Check();
    private static final int LOW = Integer.MIN_VALUE;
    private static final int HIGH = Integer.MAX_VALUE;
    private static final int[] NO_ROOTS = {-1, 32, 33, 64, LOW, HIGH};

    private CallEdgesTest() {
    }

    public static void main(String[] args) {
        newObjectIsAsFormatted();
        newObjectTakesItsHalf();
        everySizeOfHeap();
        everyWrongSizeOfHeap();
        formatForgetsAll();
        formatToFewerPages();
        formatOfAHeapThatGaveUp();
        copyOfNone();
        copyToItself();
        copyRefused();
        dropOfNone();
        dropRefused();
        firstAndLastRef();
        linkOfNone();
        linkRefused();
        followOfNone();
        followToItself();
        followRefused();
        firstAndLastData();
        setRefused();
        looseTellsWhatItHad();
        looseRefused();
        takeOfEachAddress();
        takeOfWhatIsNoMore();
        takeRefused();
        rootOfNoRoot();
        wordOfNoAddress();
        objectAtNoObject();
        objectOfAnotherWhat();
        pageOfNoPage();
        pageOfAnotherWhat();
        lookAtAnotherWhat();
        looksOfEmptyAndFull();
        iseComesAheadOfNsee();
        iaeComesFirst();
        CHECK.end();
    }

    private static void refused(String what, LooseHeap heap, Class<? extends RuntimeException> due,
            Runnable call) {
        CHECK.refused(what, heap, due, call);
    }

    private static void noRoot(String what, LooseHeap heap, Runnable call) {
        refused(what, heap, IllegalArgumentException.class, call);
    }

    /** Root 0: two REFS, three DATA; root 1: one REF; root 2: one DATA; the others have NONE. */
    private static LooseHeap three() {
        LooseHeap heap = Heaps.of(8, 16);
        heap.make(0, 2, 3);
        heap.make(1, 1, 0);
        heap.make(2, 0, 1);
        heap.link(0, 0, 1);
        heap.set(2, 0, 40);
        heap.loose(4, 9);
        return heap;
    }

    // Promise 1: "As format(16, 32)".
    private static void newObjectIsAsFormatted() {
        LooseHeap heap = new LooseHeap();
        CHECK.same("as format(16, 32)", Picture.of(heap), Picture.of(Heaps.of(16, 32)));
        CHECK.same("look(0)", heap.look(0), 16);
        CHECK.same("look(1)", heap.look(1), 32);
        CHECK.same("word(511)", heap.word(511), 0);
    }

    private static void newObjectTakesItsHalf() {
        LooseHeap heap = new LooseHeap();
        Heaps.fillPages(heap, 8);
        CHECK.same("look(2)", heap.look(2), 8);
        CHECK.no("a ninth PAGE", heap.make(8, 0, 0));
    }

    // Promise 2: "IllegalArgumentException: pages is not 4 to 64, or words not 8 to 64".
    private static void everySizeOfHeap() {
        for (int pages = 4; pages <= 64; pages++) {
            for (int words = 8; words <= 64; words++) {
                LooseHeap heap = new LooseHeap();
                heap.format(pages, words);
                String name = "format(" + pages + ", " + words + "): ";
                CHECK.same(name + "look(0)", heap.look(0), pages);
                CHECK.same(name + "look(1)", heap.look(1), words);
                CHECK.same(name + "look(2)", heap.look(2), 0);
                CHECK.same(name + "page(last, 0)", heap.page(pages - 1, 0), 0);
                CHECK.same(name + "page(behind, 0)", heap.page(pages, 0), -1);
            }
        }
    }

    private static void everyWrongSizeOfHeap() {
        int[] noPages = {LOW, -64, -4, -1, 0, 1, 2, 3, 65, 66, 128, HIGH};
        int[] noWords = {LOW, -64, -8, -1, 0, 1, 4, 7, 65, 66, 128, HIGH};
        for (int pages : noPages) {
            for (int words : new int[] {8, 32, 64, 7, 65}) {
                LooseHeap heap = three();
                noRoot("format(" + pages + ", " + words + ")", heap, () -> heap.format(pages, words));
            }
        }
        for (int words : noWords) {
            for (int pages : new int[] {4, 16, 64}) {
                LooseHeap heap = three();
                noRoot("format(" + pages + ", " + words + ")", heap, () -> heap.format(pages, words));
            }
        }
    }

    // "all PAGES are FREE, all EXACT ROOTS are NONE, all LOOSE ROOTS -1, no COLLECTION was".
    private static void formatForgetsAll() {
        LooseHeap heap = Heaps.of(16, 8);
        Heaps.fillPages(heap, 5);
        heap.make(30, 2, 18);
        heap.set(30, 17, 4);
        for (int r = 0; r < 32; r++) {
            heap.loose(r, r);
        }
        heap.make(31, 0, 0);
        heap.drop(4);
        heap.collect();
        for (int what : new int[] {2, 4, 5, 6, 8, 9, 12}) {
            CHECK.yes("something to forget in look(" + what + ")", heap.look(what) > 0);
        }
        heap.format(16, 8);
        CHECK.same("as a new one", Picture.of(heap), Picture.of(Heaps.of(16, 8)));
    }

    private static void formatToFewerPages() {
        LooseHeap heap = Heaps.of(64, 64);
        Heaps.fillPages(heap, 32);
        heap.loose(0, 4095);
        heap.collect();
        heap.loose(0, 4095);
        heap.collect();
        CHECK.same("page(63, 3)", heap.page(63, 3), 1);
        heap.format(4, 8);
        CHECK.same("as a new one", Picture.of(heap), Picture.of(Heaps.of(4, 8)));
        CHECK.same("page(63, 3)", heap.page(63, 3), -1);
        CHECK.same("object(4032, 2)", heap.object(4032, 2), -1);
        CHECK.no("take(4032, 0)", heap.take(4032, 0));
        heap.format(64, 64);
        CHECK.same("and larger again", Picture.of(heap), Picture.of(Heaps.of(64, 64)));
    }

    private static void formatOfAHeapThatGaveUp() {
        LooseHeap heap = Heaps.thatGivesUp();
        CHECK.same("collect()", heap.collect(), -1);
        heap.format(4, 8);
        CHECK.same("as a new one", Picture.of(heap), Picture.of(Heaps.of(4, 8)));
        heap.make(0, 0, 2);
        CHECK.same("root(0)", heap.root(0), 0);
    }

    // Promise 4: "EXACT ROOT to has what EXACT ROOT from has", be it NONE.
    private static void copyOfNone() {
        LooseHeap heap = three();
        heap.copy(31, 0);
        CHECK.same("root(0)", heap.root(0), -1);
        heap.copy(31, 30);
        CHECK.same("root(30)", heap.root(30), -1);
        heap.copy(1, 31);
        CHECK.same("root(31)", heap.root(31), 6);
        heap.copy(31, 0);
        CHECK.same("root(0)", heap.root(0), 6);
        CHECK.same("root(1)", heap.root(1), 6);
    }

    private static void copyToItself() {
        LooseHeap heap = three();
        String before = Picture.of(heap);
        heap.copy(1, 1);
        heap.copy(9, 9);
        CHECK.same("copy(1, 1), copy(9, 9)", Picture.of(heap), before);
    }

    private static void copyRefused() {
        LooseHeap heap = three();
        for (int r : NO_ROOTS) {
            noRoot("copy(" + r + ", 0)", heap, () -> heap.copy(r, 0));
            noRoot("copy(0, " + r + ")", heap, () -> heap.copy(0, r));
            noRoot("copy(" + r + ", " + r + ")", heap, () -> heap.copy(r, r));
        }
    }

    // Promise 5: "EXACT ROOT r has NONE", also one that had it, and the object lies there still.
    private static void dropOfNone() {
        LooseHeap heap = three();
        String before = Picture.of(heap);
        heap.drop(0);
        heap.drop(31);
        CHECK.same("drop(0), drop(31)", Picture.of(heap),
                before.replace("root 0: 0 ", "root 0: -1 "));
        heap.drop(0);
        CHECK.same("root(0)", heap.root(0), -1);
    }

    private static void dropRefused() {
        LooseHeap heap = three();
        for (int r : NO_ROOTS) {
            noRoot("drop(" + r + ")", heap, () -> heap.drop(r));
        }
    }

    // Promises 6 and 7: REFS are counted from 0 on; the last one is next to the DATA.
    private static void firstAndLastRef() {
        LooseHeap heap = Heaps.of(8, 64);
        heap.make(0, 31, 2);
        heap.make(31, 0, 0);
        heap.link(0, 0, 31);
        heap.link(0, 30, 0);
        CHECK.same("word(1)", heap.word(1), 34);
        CHECK.same("word(31)", heap.word(31), 0);
        CHECK.same("word(0)", heap.word(0), 31 * 256 + 2);
        CHECK.same("word(32)", heap.word(32), 0);
        for (int a = 2; a < 31; a++) {
            CHECK.same("word(" + a + ")", heap.word(a), -1);
        }
        CHECK.same("follow(0, 30, 5)", heap.follow(0, 30, 5), 0);
        CHECK.same("follow(0, 0, 6)", heap.follow(0, 0, 6), 34);
        CHECK.same("root(5)", heap.root(5), 0);
        CHECK.same("root(6)", heap.root(6), 34);
    }

    private static void linkOfNone() {
        LooseHeap heap = three();
        heap.link(0, 0, 31);
        CHECK.same("word(1)", heap.word(1), -1);
        heap.link(0, 0, 0);
        CHECK.same("to itself: word(1)", heap.word(1), 0);
    }

    private static void linkRefused() {
        LooseHeap heap = three();
        for (int r : NO_ROOTS) {
            noRoot("link(" + r + ", 0, 1)", heap, () -> heap.link(r, 0, 1));
            noRoot("link(0, 0, " + r + ")", heap, () -> heap.link(0, 0, r));
        }
        refused("link(31, 0, 0)", heap, IllegalStateException.class, () -> heap.link(31, 0, 0));
        for (int i : new int[] {-1, 2, 3, 5, 31, LOW, HIGH}) {
            refused("link(0, " + i + ", 1)", heap, NoSuchElementException.class,
                    () -> heap.link(0, i, 1));
        }
        for (int i : new int[] {-1, 0, 1}) {
            refused("link(2, " + i + ", 1) of one without REFS", heap, NoSuchElementException.class,
                    () -> heap.link(2, i, 1));
        }
    }

    // Promise 7: "EXACT ROOT to has what REF i tells: that", be it NONE.
    private static void followOfNone() {
        LooseHeap heap = three();
        CHECK.same("follow(0, 1, 2)", heap.follow(0, 1, 2), -1);
        CHECK.same("root(2)", heap.root(2), -1);
        CHECK.same("follow(0, 0, 31)", heap.follow(0, 0, 31), 6);
        CHECK.same("root(31)", heap.root(31), 6);
    }

    private static void followToItself() {
        LooseHeap heap = three();
        CHECK.same("follow(0, 0, 0)", heap.follow(0, 0, 0), 6);
        CHECK.same("root(0)", heap.root(0), 6);
        CHECK.same("follow(0, 0, 0)", heap.follow(0, 0, 0), -1);
        refused("follow(0, 0, 0)", heap, IllegalStateException.class, () -> heap.follow(0, 0, 0));
    }

    private static void followRefused() {
        LooseHeap heap = three();
        for (int r : NO_ROOTS) {
            noRoot("follow(" + r + ", 0, 1)", heap, () -> heap.follow(r, 0, 1));
            noRoot("follow(0, 0, " + r + ")", heap, () -> heap.follow(0, 0, r));
        }
        refused("follow(31, 0, 0)", heap, IllegalStateException.class, () -> heap.follow(31, 0, 0));
        for (int i : new int[] {-1, 2, 3, 5, 31, LOW, HIGH}) {
            refused("follow(0, " + i + ", 1)", heap, NoSuchElementException.class,
                    () -> heap.follow(0, i, 1));
        }
        for (int i : new int[] {-1, 0, 1}) {
            refused("follow(2, " + i + ", 1) of one without REFS", heap,
                    NoSuchElementException.class, () -> heap.follow(2, i, 1));
        }
    }

    // Promise 8: "DATA i becomes v: what it was", for any int and up to the last of 200.
    private static void firstAndLastData() {
        LooseHeap heap = Heaps.of(64, 8);
        heap.make(0, 31, 200);
        int[] values = {LOW, HIGH, -1, 0, 1};
        int before = 0;
        for (int v : values) {
            CHECK.same("set(0, 0, " + v + ")", heap.set(0, 0, v), before);
            CHECK.same("set(0, 199, " + v + ")", heap.set(0, 199, v), before);
            CHECK.same("word(32)", heap.word(32), v);
            CHECK.same("word(231)", heap.word(231), v);
            before = v;
        }
        CHECK.same("word(31)", heap.word(31), -1);
        CHECK.same("word(33)", heap.word(33), 0);
        CHECK.same("word(232)", heap.word(232), 0);
    }

    private static void setRefused() {
        LooseHeap heap = three();
        for (int r : NO_ROOTS) {
            noRoot("set(" + r + ", 0, 1)", heap, () -> heap.set(r, 0, 1));
        }
        refused("set(31, 0, 0)", heap, IllegalStateException.class, () -> heap.set(31, 0, 0));
        for (int i : new int[] {-1, -2, 3, 4, 199, 200, LOW, HIGH}) {
            refused("set(0, " + i + ", 1)", heap, NoSuchElementException.class,
                    () -> heap.set(0, i, 1));
        }
        for (int i : new int[] {-1, 0, 1}) {
            refused("set(1, " + i + ", 1) of one without DATA", heap, NoSuchElementException.class,
                    () -> heap.set(1, i, 1));
        }
    }

    // Promise 9: "LOOSE ROOT r has v: what it had".
    private static void looseTellsWhatItHad() {
        LooseHeap heap = new LooseHeap();
        for (int r : new int[] {0, 31}) {
            CHECK.same("loose(" + r + ", HIGH)", heap.loose(r, HIGH), -1);
            CHECK.same("loose(" + r + ", LOW)", heap.loose(r, LOW), HIGH);
            CHECK.same("loose(" + r + ", 0)", heap.loose(r, 0), LOW);
            CHECK.same("root(" + r + ")", heap.root(r), -1);
        }
        CHECK.same("loose(1, 0)", heap.loose(1, 0), -1);
        CHECK.same("loose(30, 0)", heap.loose(30, 0), -1);
    }

    private static void looseRefused() {
        LooseHeap heap = three();
        for (int r : NO_ROOTS) {
            noRoot("loose(" + r + ", 0)", heap, () -> heap.loose(r, 0));
        }
    }

    // Promise 10: "whether one does (else nothing is done)", asked at each ADDRESS there is.
    private static void takeOfEachAddress() {
        LooseHeap begun = Heaps.of(8, 8);
        begun.make(0, 1, 1);
        begun.make(1, 0, 0);
        begun.make(2, 0, 0);
        begun.make(3, 1, 8);
        for (int v = -9; v <= 72; v++) {
            boolean begins = v == 0 || v == 3 || v == 4 || v == 8;
            begun.copy(0, 31);
            begun.drop(30);
            CHECK.same("take(" + v + ", 30)", begun.take(v, 30) ? 1 : 0, begins ? 1 : 0);
            CHECK.same("take(" + v + ", 30): root(30)", begun.root(30), begins ? v : -1);
            CHECK.same("take(" + v + ", 31)", begun.take(v, 31) ? 1 : 0, begins ? 1 : 0);
            CHECK.same("take(" + v + ", 31): root(31)", begun.root(31), begins ? v : 0);
        }
        for (int v : new int[] {LOW, HIGH, LOW + 8, 4096, 1 << 30}) {
            String before = Picture.of(begun);
            CHECK.no("take(" + v + ", 0)", begun.take(v, 0));
            CHECK.same("take(" + v + ", 0):", Picture.of(begun), before);
        }
    }

    private static void takeOfWhatIsNoMore() {
        LooseHeap heap = Heaps.of(8, 8);
        heap.make(0, 0, 2);
        heap.make(1, 0, 2);
        heap.drop(0);
        CHECK.yes("nothing tells it: take(0, 5)", heap.take(0, 5));
        heap.drop(5);
        heap.collect();
        CHECK.no("take(0, 5)", heap.take(0, 5));
        CHECK.no("where the other was: take(3, 5)", heap.take(3, 5));
        CHECK.yes("where it is: take(8, 5)", heap.take(8, 5));
    }

    private static void takeRefused() {
        LooseHeap heap = three();
        for (int r : NO_ROOTS) {
            noRoot("take(0, " + r + ")", heap, () -> heap.take(0, r));
            noRoot("take(1, " + r + ")", heap, () -> heap.take(1, r));
            noRoot("take(-1, " + r + ")", heap, () -> heap.take(-1, r));
        }
    }

    // Promise 12: "NONE also if there is none such".
    private static void rootOfNoRoot() {
        LooseHeap heap = three();
        heap.copy(0, 31);
        for (int r : NO_ROOTS) {
            CHECK.same("root(" + r + ")", heap.root(r), -1);
        }
        CHECK.same("root(0)", heap.root(0), 0);
        CHECK.same("root(31)", heap.root(31), 0);
        CHECK.same("root(30)", heap.root(30), -1);
    }

    // Promise 13: "0 if there is none such".
    private static void wordOfNoAddress() {
        LooseHeap heap = Heaps.of(4, 8);
        Heaps.fillPages(heap, 2);
        heap.collect();
        heap.set(1, 6, 31);
        CHECK.same("word(31)", heap.word(31), 31);
        for (int a : new int[] {32, 33, 39, 63, 64, 4095, 4096, HIGH, -1, -8, -32, LOW, LOW + 31}) {
            CHECK.same("word(" + a + ")", heap.word(a), 0);
        }
    }

    // Promise 14: "NONE, if none begins there": not within one, nor behind the last of a PAGE.
    private static void objectAtNoObject() {
        LooseHeap heap = three();
        for (int a = -17; a <= 145; a++) {
            boolean begins = a == 0 || a == 6 || a == 8;
            for (int what = 0; what < 3; what++) {
                CHECK.yes("object(" + a + ", " + what + ")", heap.object(a, what) >= 0 == begins);
            }
        }
        for (int a : new int[] {LOW, HIGH, LOW + 6, 1 << 30}) {
            for (int what = 0; what < 3; what++) {
                CHECK.same("object(" + a + ", " + what + ")", heap.object(a, what), -1);
            }
        }
        heap.set(0, 0, 257);
        CHECK.same("DATA that looks like a head", heap.object(3, 2), -1);
    }

    private static void objectOfAnotherWhat() {
        LooseHeap heap = three();
        for (int what : new int[] {-1, 3, 4, LOW, HIGH}) {
            CHECK.same("object(0, " + what + ")", heap.object(0, what), -1);
            CHECK.same("object(1, " + what + ")", heap.object(1, what), -1);
            CHECK.same("object(-1, " + what + ")", heap.object(-1, what), -1);
        }
        int[] due = {2, 3, 6};
        for (int what = 0; what < 3; what++) {
            CHECK.same("object(0, " + what + ")", heap.object(0, what), due[what]);
        }
    }

    // Promise 15: "NONE if there is none such".
    private static void pageOfNoPage() {
        LooseHeap heap = three();
        for (int p : new int[] {-1, 8, 9, 63, 64, 65, LOW, HIGH}) {
            for (int what = -1; what <= 4; what++) {
                CHECK.same("page(" + p + ", " + what + ")", heap.page(p, what), -1);
            }
        }
        for (int what = 0; what < 4; what++) {
            CHECK.same("page(7, " + what + ")", heap.page(7, what), 0);
        }
    }

    // "or for another what".
    private static void pageOfAnotherWhat() {
        LooseHeap heap = three();
        for (int what : new int[] {-1, 4, 5, LOW, HIGH}) {
            CHECK.same("page(0, " + what + ")", heap.page(0, what), -1);
            CHECK.same("page(7, " + what + ")", heap.page(7, what), -1);
        }
    }

    // Promise 16: "NONE for another what".
    private static void lookAtAnotherWhat() {
        LooseHeap heap = three();
        for (int what : new int[] {-1, -2, 13, 14, 99, LOW, HIGH}) {
            CHECK.same("look(" + what + ")", heap.look(what), -1);
        }
    }

    private static void looksOfEmptyAndFull() {
        LooseHeap heap = Heaps.of(64, 64);
        int[] empty = {64, 64, 0, -1, 0, 0, 0, 0, 0, 0, 0, 0, 0};
        for (int what = 0; what < empty.length; what++) {
            CHECK.same("empty: look(" + what + ")", heap.look(what), empty[what]);
        }
        Heaps.fillPages(heap, 32);
        CHECK.same("ahead of a collection: look(4)", heap.look(4), 32);
        CHECK.same("ahead of a collection: look(5)", heap.look(5), 2048);
        heap.collect();
        int[] full = {64, 64, 32, 63, 32, 2048, 1, 0, 0, 32, 32, 32, 32};
        for (int what = 0; what < full.length; what++) {
            CHECK.same("half full: look(" + what + ")", heap.look(what), full[what]);
        }
    }

    // "of two exceptions the one named first is thrown".
    private static void iseComesAheadOfNsee() {
        LooseHeap heap = three();
        for (int i : new int[] {-1, 0, 31, 200, LOW, HIGH}) {
            refused("link(31, " + i + ", 0)", heap, IllegalStateException.class,
                    () -> heap.link(31, i, 0));
            refused("follow(31, " + i + ", 0)", heap, IllegalStateException.class,
                    () -> heap.follow(31, i, 0));
            refused("set(31, " + i + ", 0)", heap, IllegalStateException.class,
                    () -> heap.set(31, i, 0));
        }
    }

    private static void iaeComesFirst() {
        LooseHeap heap = three();
        for (int wrong : NO_ROOTS) {
            noRoot("link(31, 0, " + wrong + ")", heap, () -> heap.link(31, 0, wrong));
            noRoot("link(0, 9, " + wrong + ")", heap, () -> heap.link(0, 9, wrong));
            noRoot("link(" + wrong + ", -1, 0)", heap, () -> heap.link(wrong, -1, 0));
            noRoot("follow(31, 0, " + wrong + ")", heap, () -> heap.follow(31, 0, wrong));
            noRoot("follow(0, 9, " + wrong + ")", heap, () -> heap.follow(0, 9, wrong));
            noRoot("follow(" + wrong + ", -1, 0)", heap, () -> heap.follow(wrong, -1, 0));
            noRoot("set(" + wrong + ", -1, 0)", heap, () -> heap.set(wrong, -1, 0));
        }
    }
}
