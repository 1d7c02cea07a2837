import java.util.Arrays;
import java.util.NoSuchElementException;

/**
 * A heap of pages whose collector moves most objects: those on a page into which some number of
 * unknown meaning points stay where they are, all others that are reached come to new pages, and
 * what told them tells their new addresses.
 */
public final class LooseHeap {
    public static final int NONE = -1;

    private static final int ROOTS = 32;
    private static final int MOST_REFS = 31;
    private static final int MOST_DATA = 200;
    private static final int LEAST_PAGES = 4;
    private static final int MOST_PAGES = 64;
    private static final int LEAST_WORDS = 8;
    private static final int MOST_WORDS = 64;
    private static final int NEW_PAGES = 16;
    private static final int NEW_WORDS = 32;

    private final Space space;
    private final Collector collector;
    private final int[] exactRoots;
    private final int[] looseRoots;

    public LooseHeap() {
        space = new Space();
        collector = new Collector(space);
        exactRoots = new int[ROOTS];
        looseRoots = new int[ROOTS];
        startOver(NEW_PAGES, NEW_WORDS);
    }

    public void format(int pages, int words) throws IllegalArgumentException {
        if (pages < LEAST_PAGES || pages > MOST_PAGES) {
            throw new IllegalArgumentException("pages is not 4 to 64");
        }
        if (words < LEAST_WORDS || words > MOST_WORDS) {
            throw new IllegalArgumentException("words is not 8 to 64");
        }
        startOver(pages, words);
    }

    public boolean make(int r, int refs, int data) throws IllegalArgumentException {
        needRoot(r);
        if (refs < 0 || refs > MOST_REFS) {
            throw new IllegalArgumentException("refs is not 0 to 31");
        }
        if (data < 0 || data > MOST_DATA) {
            throw new IllegalArgumentException("data is not 0 to 200");
        }
        int size = 1 + refs + data;
        int address = space.roomFor(size);
        if (address == NONE) {
            collector.run(exactRoots, looseRoots);
            address = space.roomFor(size);
        }
        if (address == NONE) {
            return false;
        }
        space.putNew(address, refs, data);
        exactRoots[r] = address;
        return true;
    }

    public void copy(int from, int to) throws IllegalArgumentException {
        needRoot(from);
        needRoot(to);
        exactRoots[to] = exactRoots[from];
    }

    public void drop(int r) throws IllegalArgumentException {
        needRoot(r);
        exactRoots[r] = NONE;
    }

    public void link(int r, int i, int from)
            throws IllegalArgumentException, IllegalStateException, NoSuchElementException {
        needRoot(r);
        needRoot(from);
        needObject(r);
        needRef(r, i);
        space.setRef(exactRoots[r], i, exactRoots[from]);
    }

    public int follow(int r, int i, int to)
            throws IllegalArgumentException, IllegalStateException, NoSuchElementException {
        needRoot(r);
        needRoot(to);
        needObject(r);
        needRef(r, i);
        exactRoots[to] = space.ref(exactRoots[r], i);
        return exactRoots[to];
    }

    public int set(int r, int i, int v)
            throws IllegalArgumentException, IllegalStateException, NoSuchElementException {
        needRoot(r);
        needObject(r);
        if (i < 0 || i >= space.dataOf(exactRoots[r])) {
            throw new NoSuchElementException("there is no such DATA");
        }
        return space.swapData(exactRoots[r], i, v);
    }

    public int loose(int r, int v) throws IllegalArgumentException {
        // There are as many LOOSE ROOTS as EXACT ones.
        needRoot(r);
        int before = looseRoots[r];
        looseRoots[r] = v;
        return before;
    }

    public boolean take(int v, int r) throws IllegalArgumentException {
        needRoot(r);
        if (!space.beginsAt(v)) {
            return false;
        }
        exactRoots[r] = v;
        return true;
    }

    public int collect() {
        return collector.run(exactRoots, looseRoots) ? space.usedPages() : NONE;
    }

    public int root(int r) {
        return isRoot(r) ? exactRoots[r] : NONE;
    }

    public int word(int address) {
        return space.isAddress(address) ? space.wordAt(address) : 0;
    }

    public int object(int address, int what) {
        if (!space.beginsAt(address)) {
            return NONE;
        }
        switch (what) {
            case 0:
                return space.refsOf(address);
            case 1:
                return space.dataOf(address);
            case 2:
                return space.sizeOf(address);
            default:
                return NONE;
        }
    }

    public int page(int p, int what) {
        if (!space.isPage(p)) {
            return NONE;
        }
        switch (what) {
            case 0:
                return space.kindOf(p);
            case 1:
                return space.filledOf(p);
            case 2:
                return space.objectsOf(p);
            case 3:
                return collector.hitOf(p);
            default:
                return NONE;
        }
    }

    public int look(int what) {
        switch (what) {
            case 0:
                return space.pages();
            case 1:
                return space.words();
            case 2:
                return space.usedPages();
            case 3:
                return space.openPage();
            case 4:
                return space.allObjects();
            case 5:
                return space.allFilled();
            case 6:
                return collector.done();
            case 7:
                return collector.givenUp();
            case 8:
                return collector.hitPages();
            case 9:
                return collector.rowObjects();
            case 10:
                return collector.movedObjects();
            case 11:
                return collector.takenPages();
            case 12:
                return collector.freedPages();
            default:
                return NONE;
        }
    }

    private void startOver(int pages, int words) {
        space.startOver(pages, words);
        collector.startOver();
        Arrays.fill(exactRoots, NONE);
        Arrays.fill(looseRoots, -1);
    }

    private static boolean isRoot(int r) {
        return r >= 0 && r < ROOTS;
    }

    private static void needRoot(int r) {
        if (!isRoot(r)) {
            throw new IllegalArgumentException("there is no such ROOT");
        }
    }

    private void needObject(int r) {
        if (exactRoots[r] == NONE) {
            throw new IllegalStateException("the EXACT ROOT has NONE");
        }
    }

    private void needRef(int r, int i) {
        if (i < 0 || i >= space.refsOf(exactRoots[r])) {
            throw new NoSuchElementException("there is no such REF");
        }
    }

    /**
     * The pages, their words and the objects in them. It knows nothing of roots. Its rows are as
     * long as the largest heap needs, so that no later call makes new ones.
     */
    private static final class Space {
        // As page(p, 0) tells them.
        private static final int FREE = 0;
        private static final int SMALL = 1;
        private static final int LONG_FIRST = 2;
        private static final int LONG_FURTHER = 3;

        private static final int REFS_UNIT = 256;

        private final int[] memory;
        private final int[] kinds;
        private final int[] filled;
        // Bit k of a page's number: an object begins at its word k. A head alone can't tell that,
        // for the head of an object without REFS and DATA is 0, as a word without an object is.
        private final long[] beginnings;
        private int pages;
        private int words;
        private int open;

        Space() {
            memory = new int[MOST_PAGES * MOST_WORDS];
            kinds = new int[MOST_PAGES];
            filled = new int[MOST_PAGES];
            beginnings = new long[MOST_PAGES];
            pages = LEAST_PAGES;
            words = LEAST_WORDS;
            open = NONE;
        }

        void startOver(int newPages, int newWords) {
            Arrays.fill(memory, 0);
            Arrays.fill(kinds, FREE);
            Arrays.fill(filled, 0);
            Arrays.fill(beginnings, 0L);
            pages = newPages;
            words = newWords;
            open = NONE;
        }

        int pages() {
            return pages;
        }

        int words() {
            return words;
        }

        int openPage() {
            return open;
        }

        void setOpenPage(int p) {
            open = p;
        }

        boolean isPage(int p) {
            return p >= 0 && p < pages;
        }

        boolean isAddress(int address) {
            return address >= 0 && address < pages * words;
        }

        boolean beginsAt(int address) {
            return isAddress(address)
                    && (beginnings[address / words] >>> (address % words) & 1L) != 0;
        }

        int addressOf(int p, int k) {
            return p * words + k;
        }

        int pageOf(int address) {
            return address / words;
        }

        int kindOf(int p) {
            return kinds[p];
        }

        boolean isFree(int p) {
            return kinds[p] == FREE;
        }

        int filledOf(int p) {
            return filled[p];
        }

        int objectsOf(int p) {
            return Long.bitCount(beginnings[p]);
        }

        int usedPages() {
            int used = 0;
            for (int p = 0; p < pages; p++) {
                if (kinds[p] != FREE) {
                    used++;
                }
            }
            return used;
        }

        int allObjects() {
            int sum = 0;
            for (int p = 0; p < pages; p++) {
                sum += objectsOf(p);
            }
            return sum;
        }

        int allFilled() {
            int sum = 0;
            for (int p = 0; p < pages; p++) {
                sum += filled[p];
            }
            return sum;
        }

        int wordAt(int address) {
            return memory[address];
        }

        int refsOf(int address) {
            return memory[address] / REFS_UNIT;
        }

        int dataOf(int address) {
            return memory[address] % REFS_UNIT;
        }

        int sizeOf(int address) {
            return 1 + refsOf(address) + dataOf(address);
        }

        boolean isLong(int address) {
            return sizeOf(address) > words;
        }

        int ref(int address, int i) {
            return memory[address + 1 + i];
        }

        void setRef(int address, int i, int told) {
            memory[address + 1 + i] = told;
        }

        int swapData(int address, int i, int v) {
            int at = address + 1 + refsOf(address) + i;
            int before = memory[at];
            memory[at] = v;
            return before;
        }

        /** The first page of the object or objects that lie in a page. */
        int firstPageWith(int p) {
            int first = p;
            while (first > 0 && kinds[first] == LONG_FURTHER) {
                first--;
            }
            return first;
        }

        /** The page behind the last one of the object or objects that begin in a page. */
        int pageBehind(int first) {
            int behind = first + 1;
            while (behind < pages && kinds[behind] == LONG_FURTHER) {
                behind++;
            }
            return behind;
        }

        /** The least free page from a number on, or NONE. */
        int freePageFrom(int from) {
            for (int p = from; p < pages; p++) {
                if (kinds[p] == FREE) {
                    return p;
                }
            }
            return NONE;
        }

        /** Where a new object of that size would come, or NONE; nothing is changed. */
        int roomFor(int size) {
            return size <= words ? roomForSmall(size) : roomForLong(size);
        }

        private int roomForSmall(int size) {
            if (open != NONE && size <= words - filled[open]) {
                return addressOf(open, filled[open]);
            }
            int p = mayTake(1) ? freePageFrom(0) : NONE;
            return p == NONE ? NONE : addressOf(p, 0);
        }

        private int roomForLong(int size) {
            int need = (size + words - 1) / words;
            int p = mayTake(need) ? freeRow(need) : NONE;
            return p == NONE ? NONE : addressOf(p, 0);
        }

        // Half of the heap is left to the collector, which moves objects to free pages.
        private boolean mayTake(int more) {
            return usedPages() + more <= pages / 2;
        }

        private int freeRow(int need) {
            int length = 0;
            for (int p = 0; p < pages; p++) {
                length = kinds[p] == FREE ? length + 1 : 0;
                if (length == need) {
                    return p - need + 1;
                }
            }
            return NONE;
        }

        /** Puts a new object where roomFor() found room for it; its words are 0 till then. */
        void putNew(int address, int refs, int data) {
            int size = 1 + refs + data;
            if (size <= words) {
                enterSmall(address, size);
                open = pageOf(address);
            } else {
                enterLong(pageOf(address), size);
            }
            memory[address] = REFS_UNIT * refs + data;
            for (int i = 0; i < refs; i++) {
                setRef(address, i, NONE);
            }
        }

        /** Writes a small object to another page; freePagesBut() clears where it was. */
        void copySmall(int from, int to) {
            int size = sizeOf(from);
            enterSmall(to, size);
            System.arraycopy(memory, from, memory, to, size);
        }

        private void enterSmall(int address, int size) {
            int p = pageOf(address);
            kinds[p] = SMALL;
            filled[p] += size;
            beginnings[p] |= 1L << (address % words);
        }

        private void enterLong(int first, int size) {
            int left = size;
            for (int p = first; p < pages && left > 0; p++) {
                kinds[p] = p == first ? LONG_FIRST : LONG_FURTHER;
                filled[p] = Math.min(left, words);
                left -= words;
            }
            beginnings[first] = 1L;
        }

        /** Frees the used pages that are not to stay: how many. */
        int freePagesBut(boolean[] stays) {
            int freed = 0;
            for (int p = 0; p < pages; p++) {
                if (kinds[p] != FREE && !stays[p]) {
                    freePage(p);
                    freed++;
                }
            }
            return freed;
        }

        private void freePage(int p) {
            for (int k = 0; k < words; k++) {
                memory[addressOf(p, k)] = 0;
            }
            kinds[p] = FREE;
            filled[p] = 0;
            beginnings[p] = 0L;
        }
    }

    /**
     * Carries out collections. It first plans the whole of one in rows of its own and touches the
     * space and the roots only when the plan stands, so that one that is given up changes nothing.
     */
    private static final class Collector {
        private final Space space;

        // The plan of the collection under way.
        private final int[] row;
        private int rowLength;
        // By the address of an object ahead of the collection: its address behind it, or NONE if
        // it is not in the row.
        private final int[] newAddresses;
        private final boolean[] hit;
        // Pages that are used behind the collection, the targets too.
        private final boolean[] stays;
        private int target;
        private int targetFilled;
        private int moved;
        private int taken;

        private int done;
        private int givenUp;

        // Of the latest collection that was not given up.
        private final int[] latestHit;
        private int latestHitPages;
        private int latestRow;
        private int latestMoved;
        private int latestTaken;
        private int latestFreed;

        Collector(Space itsSpace) {
            space = itsSpace;
            row = new int[MOST_PAGES * MOST_WORDS];
            newAddresses = new int[MOST_PAGES * MOST_WORDS];
            hit = new boolean[MOST_PAGES];
            stays = new boolean[MOST_PAGES];
            latestHit = new int[MOST_PAGES];
        }

        void startOver() {
            done = 0;
            givenUp = 0;
            Arrays.fill(latestHit, 0);
            latestHitPages = 0;
            latestRow = 0;
            latestMoved = 0;
            latestTaken = 0;
            latestFreed = 0;
        }

        int done() {
            return done;
        }

        int givenUp() {
            return givenUp;
        }

        int hitOf(int p) {
            return latestHit[p];
        }

        int hitPages() {
            return latestHitPages;
        }

        int rowObjects() {
            return latestRow;
        }

        int movedObjects() {
            return latestMoved;
        }

        int takenPages() {
            return latestTaken;
        }

        int freedPages() {
            return latestFreed;
        }

        /** A collection: false if it was given up. */
        boolean run(int[] exactRoots, int[] looseRoots) {
            clearPlan();
            markHits(looseRoots);
            keepHitObjects();
            if (!reachFromRoots(exactRoots) || !reachFromRow()) {
                givenUp++;
                return false;
            }
            moveRow();
            tellNewAddresses(exactRoots);
            finish();
            return true;
        }

        private void clearPlan() {
            rowLength = 0;
            Arrays.fill(newAddresses, NONE);
            for (int p = 0; p < MOST_PAGES; p++) {
                hit[p] = false;
                stays[p] = false;
            }
            target = NONE;
            targetFilled = 0;
            moved = 0;
            taken = 0;
        }

        private void markHits(int[] looseRoots) {
            for (int r = 0; r < looseRoots.length; r++) {
                if (space.isAddress(looseRoots[r])) {
                    markHit(space.pageOf(looseRoots[r]));
                }
            }
        }

        private void markHit(int p) {
            if (space.isFree(p)) {
                return;
            }
            int first = space.firstPageWith(p);
            int behind = space.pageBehind(first);
            for (int q = first; q < behind; q++) {
                hit[q] = true;
                stays[q] = true;
            }
        }

        private void keepHitObjects() {
            for (int p = 0; p < space.pages(); p++) {
                if (hit[p]) {
                    keepObjectsOf(p);
                }
            }
        }

        private void keepObjectsOf(int p) {
            for (int k = 0; k < space.words(); k++) {
                int address = space.addressOf(p, k);
                if (space.beginsAt(address)) {
                    addToRow(address, address);
                }
            }
        }

        // An object comes to the row once, so the row is never longer than there are words.
        private void addToRow(int address, int newAddress) {
            row[rowLength] = address;
            rowLength++;
            newAddresses[address] = newAddress;
        }

        private boolean reachFromRoots(int[] exactRoots) {
            for (int r = 0; r < exactRoots.length; r++) {
                if (!reach(exactRoots[r])) {
                    return false;
                }
            }
            return true;
        }

        // The row grows meanwhile, and what comes to it is asked here too.
        private boolean reachFromRow() {
            for (int k = 0; k < row.length && k < rowLength; k++) {
                int refs = space.refsOf(row[k]);
                for (int i = 0; i < refs; i++) {
                    if (!reach(space.ref(row[k], i))) {
                        return false;
                    }
                }
            }
            return true;
        }

        /** Brings what is told somewhere into the row: false if there is no page left for it. */
        private boolean reach(int told) {
            if (!space.beginsAt(told) || newAddresses[told] != NONE) {
                return true;
            }
            if (space.isLong(told)) {
                keepLong(told);
                return true;
            }
            return planMove(told);
        }

        private void keepLong(int address) {
            int first = space.pageOf(address);
            int behind = space.pageBehind(first);
            for (int p = first; p < behind; p++) {
                stays[p] = true;
            }
            addToRow(address, address);
        }

        private boolean planMove(int address) {
            int size = space.sizeOf(address);
            if (target == NONE || size > space.words() - targetFilled) {
                // Pages are taken by rising numbers, so those behind the target are not taken yet.
                int next = space.freePageFrom(target + 1);
                if (next == NONE) {
                    return false;
                }
                target = next;
                targetFilled = 0;
                stays[next] = true;
                taken++;
            }
            addToRow(address, space.addressOf(target, targetFilled));
            targetFilled += size;
            moved++;
            return true;
        }

        private void moveRow() {
            for (int k = 0; k < rowLength; k++) {
                int from = row[k];
                int to = newAddresses[from];
                if (from != to) {
                    space.copySmall(from, to);
                }
                tellNewRefs(to);
            }
        }

        private void tellNewRefs(int address) {
            int refs = space.refsOf(address);
            for (int i = 0; i < refs; i++) {
                space.setRef(address, i, newAddressOf(space.ref(address, i)));
            }
        }

        private void tellNewAddresses(int[] exactRoots) {
            for (int r = 0; r < exactRoots.length; r++) {
                exactRoots[r] = newAddressOf(exactRoots[r]);
            }
        }

        // All that is told by a root or by an object of the row is in the row, or is NONE.
        private int newAddressOf(int told) {
            return space.isAddress(told) ? newAddresses[told] : NONE;
        }

        private void finish() {
            latestFreed = space.freePagesBut(stays);
            space.setOpenPage(target);
            latestHitPages = 0;
            for (int p = 0; p < MOST_PAGES; p++) {
                latestHit[p] = hit[p] ? 1 : 0;
                latestHitPages += latestHit[p];
            }
            latestRow = rowLength;
            latestMoved = moved;
            latestTaken = taken;
            done++;
        }
    }
}
