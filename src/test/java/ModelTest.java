import java.util.Random;

/**
 * Long runs of drawn calls (always the same ones) on a heap and on the model beside it: each answer
 * and, behind each call, all that can be seen of the two must be the same.
 */
public final class ModelTest {
    private static final int RUNS = 400;
    private static final int CALLS = 400;
    private static final int MANY_PAGES = 15;

    private final Check check = new Check();
    private int givenUp = 0;
    private int overHalf = 0;
    private int longHits = 0;
    private int smallHits = 0;
    private int unmade = 0;
    private final int[] refusals = new int[4];

    public static void main(String[] args) {
        ModelTest test = new ModelTest();
        for (int run = 0; run < RUNS; run++) {
            test.run(run);
        }
        test.wasWorthIt();
        test.check.end();
    }

    private void run(int run) {
        Random draw = new Random(1000 + run);
        int pages = run % 4 == 0 ? 16 + draw.nextInt(49) : 4 + draw.nextInt(9);
        int words = run % 4 == 1 ? 8 + draw.nextInt(57) : 8 + draw.nextInt(9);
        LooseHeap heap = new LooseHeap();
        heap.format(pages, words);
        Model model = new Model(pages, words);
        int rootsInUse = 2 + draw.nextInt(31);
        int looseShare = draw.nextInt(3);
        for (int call = 0; call < CALLS; call++) {
            String name = "run " + run + " call " + call + " "
                    + one(draw, heap, model, rootsInUse, looseShare);
            String got = Picture.of(heap);
            String due = model.picture();
            if (!got.equals(due)) {
                check.same(name, got, due);
                return;
            }
            count(model);
        }
    }

    private void count(Model model) {
        overHalf += model.used().size() > model.pages / 2 ? 1 : 0;
        for (int p : model.latestHit) {
            Model.Thing thing = model.thingAt(p * model.words);
            if (thing != null && model.isLong(thing)) {
                longHits++;
            } else {
                smallHits++;
            }
        }
    }

    private String one(Random draw, LooseHeap heap, Model model, int roots, int looseShare) {
        int kind = draw.nextInt(21);
        int r = draw.nextInt(roots);
        int other = draw.nextInt(roots);
        if (kind == 20) {
            return perhapsRefused(draw, heap, model);
        } else if (kind < 7) {
            return make(draw, heap, model, r);
        } else if (kind < 8) {
            heap.copy(r, other);
            model.exact[other] = model.exact[r];
            return "copy(" + r + ", " + other + ")";
        } else if (kind < 9) {
            heap.drop(r);
            model.exact[r] = null;
            return "drop(" + r + ")";
        } else if (kind < 13) {
            return link(draw, heap, model, r, other);
        } else if (kind < 14) {
            return follow(draw, heap, model, r, other);
        } else if (kind < 16) {
            return set(draw, heap, model, r);
        } else if (kind < 17) {
            return loose(draw, heap, model, looseShare);
        } else if (kind < 18) {
            return take(draw, heap, model, r);
        }
        if (kind < 19 && model.pages > MANY_PAGES) {
            return dropMost(draw, heap, model);
        }
        int due = model.collect();
        givenUp += due == Model.NONE ? 1 : 0;
        check.same("collect()", heap.collect(), due);
        return "collect()";
    }

    // What is left lies far apart and is pinned there.
    private String dropMost(Random draw, LooseHeap heap, Model model) {
        for (int r = 0; r < 32; r++) {
            boolean kept = draw.nextInt(4) == 0;
            int v = kept ? Model.addressOf(model.exact[r]) : -1;
            check.same("loose(" + r + ", " + v + ")", heap.loose(r, v), model.loose[r]);
            model.loose[r] = v;
            if (!kept) {
                heap.drop(r);
                model.exact[r] = null;
            }
        }
        return "drop() of most roots";
    }

    private String make(Random draw, LooseHeap heap, Model model, int r) {
        int refs = draw.nextInt(draw.nextInt(4) == 0 ? 32 : 4);
        int data = draw.nextInt(draw.nextInt(8) == 0 ? 60 : 6);
        boolean manyPages = model.pages > MANY_PAGES;
        if (draw.nextInt(manyPages ? 3 : 100) == 0) {
            data = 200 - draw.nextInt(manyPages ? 150 : 40);
        }
        String name = "make(" + r + ", " + refs + ", " + data + ")";
        boolean due = model.make(r, refs, data);
        unmade += due ? 0 : 1;
        check.same(name, heap.make(r, refs, data) ? 1 : 0, due ? 1 : 0);
        return name;
    }

    private String link(Random draw, LooseHeap heap, Model model, int r, int from) {
        Model.Thing thing = model.exact[r];
        if (thing == null || thing.refs.length == 0) {
            return "nothing";
        }
        int i = draw.nextInt(thing.refs.length);
        thing.refs[i] = model.exact[from];
        heap.link(r, i, from);
        return "link(" + r + ", " + i + ", " + from + ")";
    }

    private String follow(Random draw, LooseHeap heap, Model model, int r, int to) {
        Model.Thing thing = model.exact[r];
        if (thing == null || thing.refs.length == 0) {
            return "nothing";
        }
        int i = draw.nextInt(thing.refs.length);
        model.exact[to] = thing.refs[i];
        String name = "follow(" + r + ", " + i + ", " + to + ")";
        check.same(name, heap.follow(r, i, to), Model.addressOf(model.exact[to]));
        return name;
    }

    private String set(Random draw, LooseHeap heap, Model model, int r) {
        Model.Thing thing = model.exact[r];
        if (thing == null || thing.data.length == 0) {
            return "nothing";
        }
        int i = draw.nextInt(thing.data.length);
        int v = draw.nextBoolean() ? draw.nextInt() : draw.nextInt(model.pages * model.words);
        String name = "set(" + r + ", " + i + ", " + v + ")";
        check.same(name, heap.set(r, i, v), thing.data[i]);
        thing.data[i] = v;
        return name;
    }

    private String loose(Random draw, LooseHeap heap, Model model, int looseShare) {
        int r = draw.nextInt(2 + 6 * looseShare);
        int end = model.pages * model.words;
        int v = draw.nextInt(3) < looseShare ? draw.nextInt(end) : draw.nextInt(2 * end) - 2 * end - 1;
        if (draw.nextInt(10) == 0) {
            v = draw.nextBoolean() ? end : draw.nextInt();
        }
        String name = "loose(" + r + ", " + v + ")";
        check.same(name, heap.loose(r, v), model.loose[r]);
        model.loose[r] = v;
        return name;
    }

    private String take(Random draw, LooseHeap heap, Model model, int r) {
        int v = draw.nextInt(model.pages * model.words + 2) - 1;
        if (draw.nextBoolean() && !model.things.isEmpty()) {
            v = model.things.get(draw.nextInt(model.things.size())).address;
        }
        Model.Thing thing = model.thingAt(v);
        String name = "take(" + v + ", " + r + ")";
        check.same(name, heap.take(v, r) ? 1 : 0, thing == null ? 0 : 1);
        if (thing != null) {
            model.exact[r] = thing;
        }
        return name;
    }

    // A call with arguments of which some may be wrong; it is left out if none is.
    private String perhapsRefused(Random draw, LooseHeap heap, Model model) {
        int r = draw.nextInt(40) - 4;
        int other = draw.nextInt(40) - 4;
        boolean follows = draw.nextBoolean();
        boolean sets = draw.nextInt(3) == 0;
        Model.Thing thing = r < 0 || r > 31 ? null : model.exact[r];
        int fields = thing == null ? 0 : sets ? thing.data.length : thing.refs.length;
        int i = draw.nextInt(3) == 0 ? draw.nextInt() : draw.nextInt(fields + 3) - 1;
        int due = r < 0 || r > 31 || !sets && (other < 0 || other > 31) ? 1
                : thing == null ? 2 : i < 0 || i >= fields ? 3 : 0;
        refusals[due]++;
        String name = (sets ? "set(" : follows ? "follow(" : "link(") + r + ", " + i + ", " + other + ")";
        if (due != 0) {
            check.same(name, refusal(() -> {
                if (sets) {
                    heap.set(r, i, other);
                } else if (follows) {
                    heap.follow(r, i, other);
                } else {
                    heap.link(r, i, other);
                }
            }), due);
        }
        return name;
    }

    private static int refusal(Runnable call) {
        try {
            call.run();
            return 0;
        } catch (IllegalArgumentException e) {
            return 1;
        } catch (IllegalStateException e) {
            return 2;
        } catch (java.util.NoSuchElementException e) {
            return 3;
        }
    }

    // Runs that never come to the rare states would prove little.
    private void wasWorthIt() {
        System.out.println("given up " + givenUp + ", over half " + overHalf + ", long hits "
                + longHits + ", small hits " + smallHits + ", unmade " + unmade);
        check.yes("some collections were given up", givenUp > 0);
        check.yes("some heaps were more than half used", overHalf > 0);
        check.yes("some long objects were hit", longHits > 0);
        check.yes("some pages of small objects were hit", smallHits > 0);
        check.yes("some objects could not be made", unmade > 0);
        for (int k = 1; k < refusals.length; k++) {
            check.yes("some calls were refused with exception " + k, refusals[k] > 0);
        }
    }
}
