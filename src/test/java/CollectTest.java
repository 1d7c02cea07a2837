/** Promise 11, and term 3: what a collection keeps, where it moves objects, and when it gives up. */
public final class CollectTest {
    private static final Check CHECK = new Check();

    private CollectTest() {
    }

    public static void main(String[] args) {
        emptyHeap();
        orderOfTheRow();
        refsAreToldAnew();
        ringsAndSelves();
        hitByItsEdges();
        hitKeepsUnreached();
        hitOrderComesFirst();
        longStays();
        longIsHitAsAWhole();
        unreachedLongIsFreed();
        dataIsNoAddress();
        targetsAreFreeAhead();
        openPage();
        givenUp();
        freedWordsAreZero();
        CHECK.end();
    }

    private static void latest(String name, LooseHeap heap, int... due) {
        for (int k = 0; k < due.length; k++) {
            CHECK.same(name + " look(" + (8 + k) + ")", heap.look(8 + k), due[k]);
        }
    }

    private static void emptyHeap() {
        LooseHeap heap = Heaps.of(4, 8);
        heap.loose(0, 0);
        CHECK.same("collect()", heap.collect(), 0);
        CHECK.same("look(6)", heap.look(6), 1);
        latest("a FREE PAGE is not HIT", heap, 0, 0, 0, 0, 0);
    }

    private static void orderOfTheRow() {
        LooseHeap heap = Heaps.of(8, 32);
        heap.make(5, 2, 1);
        heap.make(6, 1, 2);
        heap.make(7, 0, 3);
        heap.make(8, 0, 4);
        heap.link(5, 0, 7);
        heap.link(5, 1, 6);
        heap.link(6, 0, 8);
        heap.copy(8, 2);
        heap.drop(6);
        heap.drop(7);
        heap.drop(8);
        CHECK.same("collect()", heap.collect(), 1);
        CHECK.same("root(2) is asked ahead of 5", heap.root(2), 32);
        CHECK.same("root(5)", heap.root(5), 37);
        CHECK.same("REF 0 of it", heap.follow(5, 0, 7), 41);
        CHECK.same("REF 1 of it", heap.follow(5, 1, 6), 45);
        CHECK.same("REF of that", heap.follow(6, 0, 8), 32);
        latest("four moved", heap, 0, 4, 4, 1, 1);
    }

    private static void refsAreToldAnew() {
        LooseHeap heap = Heaps.of(8, 8);
        heap.make(0, 3, 0);
        heap.make(1, 0, 3);
        heap.make(2, 2, 5);
        heap.link(0, 0, 1);
        heap.link(0, 2, 2);
        heap.link(2, 1, 1);
        heap.set(1, 0, 4);
        heap.loose(9, 3);
        heap.drop(1);
        heap.drop(2);
        heap.collect();
        CHECK.same("root(0) was HIT", heap.root(0), 0);
        CHECK.same("its REF 0 too", heap.word(1), 4);
        CHECK.same("its REF 1 tells NONE", heap.word(2), -1);
        CHECK.same("its REF 2 was moved", heap.word(3), 16);
        CHECK.same("that one's REF stays", heap.word(18), 4);
        CHECK.same("LOOSE ROOTS stay", heap.loose(9, -1), 3);
        heap.collect();
        CHECK.same("root(0) is moved now", heap.root(0), 8);
        CHECK.same("REF 0", heap.word(9), 12);
        CHECK.same("REF 2", heap.word(11), 24);
        CHECK.same("its REF", heap.word(26), 12);
        CHECK.same("DATA", heap.word(13), 4);
    }

    private static void ringsAndSelves() {
        LooseHeap heap = Heaps.of(8, 8);
        heap.make(0, 1, 1);
        heap.make(1, 2, 0);
        heap.link(0, 0, 1);
        heap.link(1, 0, 0);
        heap.link(1, 1, 1);
        heap.drop(0);
        CHECK.same("collect()", heap.collect(), 1);
        CHECK.same("root(1)", heap.root(1), 8);
        CHECK.same("its REF 0", heap.word(9), 11);
        CHECK.same("its REF 1, itself", heap.word(10), 8);
        CHECK.same("the other's REF", heap.word(12), 8);
        heap.drop(1);
        CHECK.same("a ring that nothing tells", heap.collect(), 0);
        CHECK.same("look(12)", heap.look(12), 1);
    }

    private static void hitByItsEdges() {
        int[] values = {7, 8, 15, 16, -1, Integer.MIN_VALUE, 64, 8 + 64, Integer.MAX_VALUE};
        int[] hits = {0, 1, 1, 0, 0, 0, 0, 0, 0};
        for (int k = 0; k < values.length; k++) {
            LooseHeap heap = Heaps.of(8, 8);
            heap.make(0, 0, 6);
            heap.make(1, 0, 1);
            heap.drop(0);
            heap.loose(31, values[k]);
            int hit0 = values[k] == 7 ? 1 : 0;
            CHECK.same("collect() with " + values[k], heap.collect(), 1 + hit0);
            CHECK.same("page(1, 3) with " + values[k], heap.page(1, 3), hits[k]);
            CHECK.same("page(0, 3) with " + values[k], heap.page(0, 3), hit0);
            CHECK.same("root(1) with " + values[k], heap.root(1), hits[k] == 1 ? 8 : 16);
            CHECK.same("look(8) with " + values[k], heap.look(8), hits[k] + hit0);
        }
    }

    private static void hitKeepsUnreached() {
        LooseHeap heap = Heaps.of(8, 8);
        heap.make(0, 1, 0);
        heap.make(1, 0, 0);
        heap.make(2, 0, 4);
        heap.make(3, 0, 3);
        heap.make(4, 0, 2);
        heap.make(5, 0, 2);
        heap.link(0, 0, 4);
        for (int r = 0; r < 6; r++) {
            heap.drop(r);
        }
        heap.loose(0, 7);
        CHECK.same("collect()", heap.collect(), 2);
        CHECK.same("all of the HIT PAGE stay", heap.page(0, 2), 3);
        CHECK.same("the one that is told by one of them was moved", heap.word(1), 24);
        CHECK.same("object(24, 1)", heap.object(24, 1), 2);
        latest("one moved", heap, 1, 4, 1, 1, 2);
        CHECK.same("two LOOSE ROOTS", heap.loose(1, 3), -1);
        heap.collect();
        CHECK.same("in one PAGE hit it once", heap.look(8), 1);
        CHECK.same("row", heap.look(9), 4);
    }

    private static void hitOrderComesFirst() {
        LooseHeap heap = Heaps.of(12, 8);
        heap.make(0, 0, 2);
        heap.make(1, 0, 3);
        heap.make(2, 1, 6);
        heap.make(3, 1, 6);
        heap.link(2, 0, 0);
        heap.link(3, 0, 1);
        heap.drop(0);
        heap.drop(1);
        heap.drop(2);
        heap.drop(3);
        heap.make(0, 0, 1);
        heap.loose(0, 16);
        heap.loose(1, 8);
        heap.collect();
        CHECK.same("root(0) comes ahead of REFS", heap.root(0), 32);
        CHECK.same("then the REF of the lower ADDRESS", heap.word(9), 34);
        CHECK.same("then that of the higher", heap.word(17), 40);
        latest("two HIT", heap, 2, 5, 3, 2, 2);
    }

    private static void longStays() {
        LooseHeap heap = Heaps.of(12, 8);
        heap.make(0, 0, 5);
        heap.make(1, 1, 10);
        heap.link(1, 0, 0);
        heap.set(1, 9, 7);
        heap.drop(0);
        CHECK.same("collect()", heap.collect(), 3);
        CHECK.same("root(1)", heap.root(1), 8);
        CHECK.same("its REF", heap.word(9), 24);
        CHECK.same("its last DATA", heap.word(19), 7);
        CHECK.same("page(0, 0)", heap.page(0, 0), 0);
        CHECK.same("page(1, 3)", heap.page(1, 3), 0);
        latest("a LONG one is in the ROW and not moved", heap, 0, 2, 1, 1, 1);
    }

    private static void longIsHitAsAWhole() {
        LooseHeap heap = Heaps.of(16, 8);
        heap.make(0, 0, 15);
        heap.make(1, 1, 20);
        heap.make(2, 0, 8);
        heap.make(3, 0, 1);
        heap.link(1, 0, 3);
        for (int r = 0; r < 4; r++) {
            heap.drop(r);
        }
        heap.loose(3, 31);
        CHECK.same("collect()", heap.collect(), 4);
        int[] kinds = {0, 0, 2, 3, 3, 0, 0, 0, 1};
        int[] hits = {0, 0, 1, 1, 1, 0, 0, 0, 0};
        for (int p = 0; p < kinds.length; p++) {
            CHECK.same("page(" + p + ", 0)", heap.page(p, 0), kinds[p]);
            CHECK.same("page(" + p + ", 3)", heap.page(p, 3), hits[p]);
        }
        CHECK.same("its REF was moved", heap.word(17), 64);
        latest("three HIT PAGES", heap, 3, 2, 1, 1, 5);
        heap.loose(3, 39);
        CHECK.same("the last WORD of its last PAGE", heap.collect(), 4);
        heap.loose(3, 40);
        CHECK.same("the WORD behind", heap.collect(), 0);
    }

    private static void unreachedLongIsFreed() {
        LooseHeap heap = Heaps.of(12, 8);
        heap.make(0, 1, 20);
        heap.set(0, 19, 5);
        heap.make(1, 0, 8);
        heap.drop(0);
        CHECK.same("collect()", heap.collect(), 2);
        CHECK.same("look(12)", heap.look(12), 3);
        CHECK.same("look(3)", heap.look(3), -1);
        for (int a = 0; a < 24; a++) {
            CHECK.same("word(" + a + ")", heap.word(a), 0);
        }
        CHECK.same("object(0, 2)", heap.object(0, 2), -1);
    }

    private static void dataIsNoAddress() {
        LooseHeap heap = Heaps.of(8, 8);
        heap.make(0, 0, 2);
        heap.make(1, 0, 2);
        heap.set(0, 0, 3);
        heap.set(0, 1, 0);
        heap.drop(1);
        heap.collect();
        CHECK.same("look(4)", heap.look(4), 1);
        CHECK.same("DATA 0 stays", heap.word(9), 3);
    }

    private static void targetsAreFreeAhead() {
        LooseHeap heap = Heaps.of(10, 8);
        for (int r = 0; r < 5; r++) {
            heap.make(r, 0, 4);
        }
        heap.drop(0);
        heap.drop(2);
        heap.collect();
        CHECK.same("root(1)", heap.root(1), 40);
        CHECK.same("root(3)", heap.root(3), 48);
        CHECK.same("root(4)", heap.root(4), 56);
        latest("PAGES freed in it are not taken in it", heap, 0, 3, 3, 3, 5);
        heap.collect();
        CHECK.same("root(1)", heap.root(1), 0);
        CHECK.same("root(3)", heap.root(3), 8);
        CHECK.same("root(4)", heap.root(4), 16);
    }

    private static void openPage() {
        LooseHeap heap = Heaps.of(8, 8);
        heap.make(0, 0, 2);
        heap.loose(0, 0);
        heap.collect();
        CHECK.same("a HIT PAGE is OPEN no more", heap.look(3), -1);
        heap.make(1, 0, 1);
        CHECK.same("root(1)", heap.root(1), 8);
        CHECK.same("look(3)", heap.look(3), 1);
        heap.collect();
        CHECK.same("the TARGET is OPEN", heap.look(3), 2);
        heap.make(2, 0, 0);
        CHECK.same("root(2)", heap.root(2), 18);
        // Only the latest TARGET takes more, even if an earlier one had room.
        LooseHeap more = Heaps.of(16, 8);
        more.make(0, 0, 2);
        more.make(1, 0, 6);
        more.make(2, 0, 2);
        more.collect();
        CHECK.same("root(2)", more.root(2), 40);
        CHECK.same("look(3)", more.look(3), 5);
    }

    private static void givenUp() {
        LooseHeap heap = Heaps.of(4, 8);
        heap.make(0, 1, 3);
        heap.make(2, 0, 2);
        heap.loose(4, 1);
        CHECK.same("collect()", heap.collect(), 1);
        heap.make(1, 0, 4);
        heap.make(3, 0, 2);
        heap.link(0, 0, 3);
        heap.loose(4, -1);
        String before = Picture.of(heap);
        CHECK.same("collect()", heap.collect(), -1);
        CHECK.same("look(7)", heap.look(7), 1);
        String due = before.replace("look 7: 0\n", "look 7: 1\n");
        CHECK.same("but for that all is as it was:", Picture.of(heap), due);
        CHECK.same("page(0, 3) is of the one ahead of it", heap.page(0, 3), 1);
        CHECK.same("once more", heap.collect(), -1);
        CHECK.same("look(7)", heap.look(7), 2);
        heap.drop(2);
        CHECK.same("with one less", heap.collect(), 2);
        CHECK.same("look(6)", heap.look(6), 2);
        CHECK.same("page(0, 3)", heap.page(0, 3), 0);
    }

    private static void freedWordsAreZero() {
        LooseHeap heap = Heaps.of(4, 8);
        heap.make(0, 2, 5);
        for (int i = 0; i < 5; i++) {
            heap.set(0, i, -1 - i);
        }
        heap.collect();
        for (int a = 0; a < 8; a++) {
            CHECK.same("word(" + a + ")", heap.word(a), 0);
        }
        heap.drop(0);
        heap.make(1, 0, 6);
        for (int k = 0; k < 6; k++) {
            CHECK.same("set(1, " + k + ", 0)", heap.set(1, k, 0), 0);
        }
    }
}
