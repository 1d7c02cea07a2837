/** All that the calls of a heap tell of it, as a text, so that two states can be compared. */
final class Picture {
    private Picture() {
    }

    static String of(LooseHeap heap) {
        StringBuilder out = new StringBuilder();
        for (int what = -1; what <= 13; what++) {
            out.append("look ").append(what).append(": ").append(heap.look(what)).append('\n');
        }
        roots(heap, out);
        int pages = heap.look(0);
        for (int p = -1; p <= pages; p++) {
            out.append("page ").append(p).append(':');
            for (int what = -1; what <= 4; what++) {
                out.append(' ').append(heap.page(p, what));
            }
            out.append('\n');
        }
        words(heap, out);
        return out.toString();
    }

    private static void roots(LooseHeap heap, StringBuilder out) {
        for (int r = 0; r < 32; r++) {
            // A LOOSE ROOT is told only by the call that changes it, so it is put back.
            int loose = heap.loose(r, 0);
            heap.loose(r, loose);
            out.append("root ").append(r).append(": ").append(heap.root(r))
                    .append(" loose ").append(loose).append('\n');
        }
    }

    private static void words(LooseHeap heap, StringBuilder out) {
        int end = heap.look(0) * heap.look(1);
        for (int a = -1; a <= end; a++) {
            int word = heap.word(a);
            int size = heap.object(a, 2);
            if (word != 0 || size != LooseHeap.NONE) {
                out.append("word ").append(a).append(": ").append(word).append(" object ")
                        .append(heap.object(a, 0)).append(' ').append(heap.object(a, 1))
                        .append(' ').append(size).append('\n');
            }
        }
    }
}
