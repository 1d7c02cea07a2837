import java.util.ArrayList;
import java.util.Arrays;
import java.util.HashMap;
import java.util.List;
import java.util.Map;
import java.util.Set;
import java.util.TreeSet;

/**
 * The document's terms a second time, written otherwise than the class: objects are Java objects
 * that tell one another directly, and all that is said of pages is worked out from where they lie.
 */
final class Model {
    static final int NONE = -1;

    static final class Thing {
        final Thing[] refs;
        final int[] data;
        int address;

        Thing(int refs, int data, int address) {
            this.refs = new Thing[refs];
            this.data = new int[data];
            this.address = address;
        }

        int size() {
            return 1 + refs.length + data.length;
        }
    }

    int pages;
    int words;
    List<Thing> things = new ArrayList<>();
    final Thing[] exact = new Thing[32];
    final int[] loose = new int[32];
    int open = NONE;
    int done = 0;
    int givenUp = 0;
    Set<Integer> latestHit = new TreeSet<>();
    int latestRow = 0;
    int latestMoved = 0;
    int latestTaken = 0;
    int latestFreed = 0;

    Model(int pages, int words) {
        this.pages = pages;
        this.words = words;
        Arrays.fill(loose, -1);
    }

    static int addressOf(Thing thing) {
        return thing == null ? NONE : thing.address;
    }

    Thing thingAt(int address) {
        for (Thing thing : things) {
            if (thing.address == address) {
                return thing;
            }
        }
        return null;
    }

    boolean isLong(Thing thing) {
        return thing.size() > words;
    }

    Set<Integer> pagesOf(Thing thing) {
        Set<Integer> result = new TreeSet<>();
        for (int a = thing.address; a < thing.address + thing.size(); a++) {
            result.add(a / words);
        }
        return result;
    }

    Set<Integer> used() {
        Set<Integer> result = new TreeSet<>();
        for (Thing thing : things) {
            result.addAll(pagesOf(thing));
        }
        return result;
    }

    int filled(int p) {
        int sum = 0;
        for (Thing thing : things) {
            int from = Math.max(thing.address, p * words);
            int to = Math.min(thing.address + thing.size(), p * words + words);
            sum += Math.max(0, to - from);
        }
        return sum;
    }

    boolean make(int r, int refs, int data) {
        int size = 1 + refs + data;
        int address = room(size);
        if (address == NONE) {
            collect();
            address = room(size);
        }
        if (address == NONE) {
            return false;
        }
        Thing thing = new Thing(refs, data, address);
        things.add(thing);
        exact[r] = thing;
        if (size <= words) {
            open = address / words;
        }
        return true;
    }

    private int room(int size) {
        if (size <= words && open != NONE && filled(open) + size <= words) {
            return open * words + filled(open);
        }
        Set<Integer> used = used();
        int need = (size + words - 1) / words;
        if (used.size() + need > pages / 2) {
            return NONE;
        }
        for (int first = 0; first + need <= pages; first++) {
            boolean free = true;
            for (int p = first; p < first + need; p++) {
                free = free && !used.contains(p);
            }
            if (free) {
                return first * words;
            }
        }
        return NONE;
    }

    int collect() {
        Set<Integer> usedAhead = used();
        Set<Integer> hit = hits();
        List<Thing> row = new ArrayList<>();
        Map<Thing, Integer> places = new HashMap<>();
        List<Thing> byAddress = new ArrayList<>(things);
        byAddress.sort((a, b) -> Integer.compare(a.address, b.address));
        for (Thing thing : byAddress) {
            if (hit.contains(thing.address / words)) {
                row.add(thing);
                places.put(thing, thing.address);
            }
        }
        List<Integer> targets = new ArrayList<>();
        int[] left = {0};
        boolean whole = true;
        for (Thing thing : exact) {
            whole = whole && reach(thing, row, places, usedAhead, targets, left);
        }
        for (int k = 0; k < row.size(); k++) {
            for (Thing told : row.get(k).refs) {
                whole = whole && reach(told, row, places, usedAhead, targets, left);
            }
        }
        if (!whole) {
            givenUp++;
            return NONE;
        }
        latestMoved = 0;
        for (Thing thing : row) {
            latestMoved += thing.address == places.get(thing) ? 0 : 1;
            thing.address = places.get(thing);
        }
        things = row;
        open = targets.isEmpty() ? NONE : targets.get(targets.size() - 1);
        done++;
        latestHit = hit;
        latestRow = row.size();
        latestTaken = targets.size();
        Set<Integer> freed = new TreeSet<>(usedAhead);
        freed.removeAll(used());
        latestFreed = freed.size();
        return used().size();
    }

    private Set<Integer> hits() {
        Set<Integer> hit = new TreeSet<>();
        for (int v : loose) {
            for (Thing thing : things) {
                for (int p : pagesOf(thing)) {
                    if (v >= p * words && v < p * words + words) {
                        hit.addAll(pagesOf(thing));
                    }
                }
            }
        }
        return hit;
    }

    private boolean reach(Thing thing, List<Thing> row, Map<Thing, Integer> places,
            Set<Integer> usedAhead, List<Integer> targets, int[] left) {
        if (thing == null || places.containsKey(thing)) {
            return true;
        }
        if (isLong(thing)) {
            places.put(thing, thing.address);
            row.add(thing);
            return true;
        }
        if (left[0] < thing.size()) {
            int p = 0;
            while (p < pages && (usedAhead.contains(p) || targets.contains(p))) {
                p++;
            }
            if (p == pages) {
                return false;
            }
            targets.add(p);
            left[0] = words;
        }
        int target = targets.get(targets.size() - 1);
        places.put(thing, target * words + words - left[0]);
        left[0] -= thing.size();
        row.add(thing);
        return true;
    }

    /** As Picture.of() tells a heap. */
    String picture() {
        StringBuilder out = new StringBuilder();
        int filledWords = things.stream().mapToInt(Thing::size).sum();
        int[] looks = {NONE, pages, words, used().size(), open, things.size(), filledWords, done,
            givenUp, latestHit.size(), latestRow, latestMoved, latestTaken, latestFreed, NONE};
        for (int k = 0; k < looks.length; k++) {
            out.append("look ").append(k - 1).append(": ").append(looks[k]).append('\n');
        }
        for (int r = 0; r < 32; r++) {
            out.append("root ").append(r).append(": ").append(addressOf(exact[r]))
                    .append(" loose ").append(loose[r]).append('\n');
        }
        out.append("page -1: -1 -1 -1 -1 -1 -1\n");
        for (int p = 0; p < pages; p++) {
            out.append("page ").append(p).append(": -1 ").append(kind(p)).append(' ')
                    .append(filled(p)).append(' ').append(beginning(p)).append(' ')
                    .append(latestHit.contains(p) ? 1 : 0).append(" -1\n");
        }
        out.append("page ").append(pages).append(": -1 -1 -1 -1 -1 -1\n");
        wordsPicture(out);
        return out.toString();
    }

    private int kind(int p) {
        for (Thing thing : things) {
            if (pagesOf(thing).contains(p)) {
                return !isLong(thing) ? 1 : thing.address == p * words ? 2 : 3;
            }
        }
        return 0;
    }

    private int beginning(int p) {
        int sum = 0;
        for (Thing thing : things) {
            sum += thing.address / words == p ? 1 : 0;
        }
        return sum;
    }

    private void wordsPicture(StringBuilder out) {
        int[] memory = new int[pages * words];
        Thing[] beginnings = new Thing[pages * words];
        for (Thing thing : things) {
            int a = thing.address;
            beginnings[a] = thing;
            memory[a++] = 256 * thing.refs.length + thing.data.length;
            for (Thing told : thing.refs) {
                memory[a++] = addressOf(told);
            }
            for (int v : thing.data) {
                memory[a++] = v;
            }
        }
        for (int a = 0; a < memory.length; a++) {
            Thing thing = beginnings[a];
            if (memory[a] != 0 || thing != null) {
                out.append("word ").append(a).append(": ").append(memory[a]).append(" object ")
                        .append(thing == null ? NONE : thing.refs.length).append(' ')
                        .append(thing == null ? NONE : thing.data.length).append(' ')
                        .append(thing == null ? NONE : thing.size()).append('\n');
            }
        }
    }
}
