import java.util.ArrayDeque;
import java.util.Arrays;
import java.util.Collections;
import java.util.Deque;
import java.util.IdentityHashMap;
import java.util.Random;
import java.util.Set;

/**
 * All promises: long runs of calls on the program and on a model of the document in which nothing
 * moves; every answer and exception must be the same. The seeds are fixed.
 */
public final class ModelTest {
    private static final Check CHECK = new Check();
    /** What later calls answer is free. */
    private static final int MOST_CALLS = 512;
    /** What is left then is enough to look at all roots. */
    private static final int FEWER_CALLS = 200;
    private static final int RUNS = 1500;

    public static void main(String[] args) {
        for (int seed = 0; seed < RUNS && CHECK.isFine(); seed++) {
            run(seed);
        }
        CHECK.end("ModelTest");
    }

    private static void run(int seed) {
        Random random = new Random(seed);
        MovingHeap heap = new MovingHeap();
        Model model = new Model();
        Chooser chooser = new Chooser(random, seed % 5, model);
        boolean looksAtRoots = seed % 4 == 3;
        int calls = looksAtRoots ? FEWER_CALLS : MOST_CALLS;
        for (int i = 0; i < calls && CHECK.isFine(); i++) {
            int[] a = chooser.call();
            long v = random.nextInt(3) == 0 ? random.nextLong() : random.nextInt(70000);
            compare("seed " + seed + " call " + i + " " + Arrays.toString(a),
                    () -> onHeap(heap, a, v), () -> onModel(model, a, v));
        }
        if (looksAtRoots) {
            compareRoots(seed, random, heap, model);
        }
    }

    private static void compareRoots(int seed, Random random, MovingHeap heap, Model model) {
        for (int r = 0; r < 64; r++) {
            int root = r;
            String where = "seed " + seed + " root " + r;
            compare(where, () -> heap.told(root, 1), () -> model.told(root, 1));
            compare(where, () -> heap.told(root, 3), () -> model.told(root, 3));
            for (int k = 0; k < 2 && model.count(r) > 0; k++) {
                int i = random.nextInt(model.count(r));
                compare(where + " number " + i, () -> heap.get(root, i), () -> model.get(root, i));
            }
        }
    }

    private static void compare(String what, Check.Call onHeap, Check.Call onModel) {
        String want = Check.thrown(onModel);
        String got = Check.thrown(onHeap);
        CHECK.due(what + ": " + got + " for " + want, got.equals(want) ? 1 : 0, 1);
    }

    private static long onHeap(MovingHeap x, int[] a, long v) {
        switch (a[0]) {
            case 0: return x.shape(a[1], a[2], a[3], a[4]);
            case 1: return x.object(a[1], a[2], a[3] == 1);
            case 2: return x.array(a[1], a[2], a[3] == 1);
            case 3: return x.text(a[1], a[2], a[3] == 1);
            case 4: return x.closure(a[1], a[2], a[3], a[4]);
            case 5: return x.put(a[1], a[2], v);
            case 6: return x.get(a[1], a[2]);
            case 7: x.link(a[1], a[2], a[3]); return 0;
            case 8: x.follow(a[1], a[2], a[3]); return 0;
            case 9: x.hold(a[1], a[2]); return 0;
            case 10: return x.told(a[1], a[2]);
            case 11: return x.collect();
            case 12: return x.every(a[1]);
            case 13: return x.made();
            default: return x.audit();
        }
    }

    private static long onModel(Model x, int[] a, long v) {
        switch (a[0]) {
            case 0: return x.shape(a[1], a[2], a[3], a[4]);
            case 1: return x.object(a[1], a[2], a[3] == 1);
            case 2: return x.array(a[1], a[2], a[3] == 1);
            case 3: return x.text(a[1], a[2], a[3] == 1);
            case 4: return x.closure(a[1], a[2], a[3], a[4]);
            case 5: return x.put(a[1], a[2], v);
            case 6: return x.get(a[1], a[2]);
            case 7: x.link(a[1], a[2], a[3]); return 0;
            case 8: x.follow(a[1], a[2], a[3]); return 0;
            case 9: x.hold(a[1], a[2]); return 0;
            case 10: return x.told(a[1], a[2]);
            case 11: return x.cells();
            case 12: return x.every(a[1]);
            case 13: return x.made;
            default: return 0;
        }
    }

    /** Chooses calls: mostly right ones on few roots, so that things meet; some wrong ones. */
    private static final class Chooser {
        private final Random random;
        private final int style;
        private final int roots;
        private final Model model;
        private int classes;

        Chooser(Random random, int style, Model model) {
            this.random = random;
            this.style = style;
            this.model = model;
            this.roots = 2 + random.nextInt(style == 0 ? 62 : 8);
        }

        int[] call() {
            int[] weights = {4, 14, 8, 8, 10, 16, 12, 20, 16, 10, 10, 3, 1, 2, 2};
            int pick = random.nextInt(Arrays.stream(weights).sum());
            int kind = 0;
            while (pick >= weights[kind]) {
                pick -= weights[kind++];
            }
            return arguments(kind);
        }

        private int[] arguments(int kind) {
            switch (kind) {
                case 0: return shape();
                case 1: return new int[] {1, root(), odd(random.nextInt(classes + 1)), flag()};
                case 2: return new int[] {2, root(), style == 4 ? lengthAtAnEdge(1) : length(), flag()};
                case 3: return new int[] {3, root(), style == 4 ? lengthAtAnEdge(4) : length(), flag()};
                case 4: return new int[] {4, root(), odd(random.nextInt(9)), random.nextInt(), odd(from())};
                case 5:
                case 6: return new int[] {kind, root(), index()};
                case 7:
                case 8: return new int[] {kind, root(), index(), root()};
                case 9: return new int[] {9, root(), random.nextInt(4) == 0 ? -1 : root()};
                case 10: return new int[] {10, root(), odd(random.nextInt(4))};
                case 12: return new int[] {12, odd(random.nextInt(5))};
                default: return new int[] {kind};
            }
        }

        private int[] shape() {
            classes++;
            return new int[] {0, odd(random.nextInt(classes) - 1), odd(random.nextInt(17)),
                random.nextInt(), odd(random.nextInt(style == 1 ? 1001 : 60))};
        }

        private int root() {
            return odd(random.nextInt(roots));
        }

        private int from() {
            return random.nextInt(8) == 0 ? 55 + random.nextInt(11) : random.nextInt(roots);
        }

        private int index() {
            return random.nextInt(10) == 0 ? random.nextInt(100) : random.nextInt(9);
        }

        private int length() {
            boolean big = style >= 2 && random.nextInt(3) == 0;
            return odd(big ? random.nextInt(100001) : random.nextInt(style == 1 ? 9000 : 40));
        }

        /** What just fits, in cells or in places (of so many elements each), or one more or less. */
        private int lengthAtAnEdge(int elementsInAPlace) {
            int fits = random.nextBoolean() ? 100000 - model.cells() - 2
                    : (180000 - model.places() - 2) * elementsInAPlace;
            int near = random.nextInt(3) == 0 ? fits - 1 - random.nextInt(30) : fits - 1 + random.nextInt(3);
            return near < 0 || near > 100000 ? length() : near;
        }

        private int flag() {
            return random.nextInt(2);
        }

        /** Now and then another number instead, at or beyond an edge. */
        private int odd(int usual) {
            int[] edges = {-1, -2, 63, 64, 17, 9, 100001, 1001, Integer.MIN_VALUE, Integer.MAX_VALUE};
            return random.nextInt(60) == 0 ? edges[random.nextInt(edges.length)] : usual;
        }
    }

    /** A thing of the model: a slot is a reference where isReference says so, else a number. */
    private static final class Thing {
        int kind;
        int told;
        int cells;
        int places;
        boolean[] isReference;
        long[] numbers;
        Thing[] references;

        Thing(int kind, int told, int cells, int places, boolean[] isReference) {
            this.kind = kind;
            this.told = told;
            this.cells = cells;
            this.places = places;
            this.isReference = isReference;
            this.numbers = new long[isReference.length];
            boolean refers = kind == 1 || kind == 3 || kind == 5;
            this.references = new Thing[refers ? isReference.length : 0];
        }
    }

    /** The document, told as plainly as can be. */
    private static final class Model {
        private final Thing[] roots = new Thing[64];
        private final boolean[][] classes = new boolean[100][];
        private final int[] prices = new int[100];
        private int size;
        private int every;
        int made;

        int shape(int over, int n, int refs, int price) {
            if (over < -1 || over >= size || n < 0 || n > 16 || price < 0 || price > 1000) {
                throw new IllegalArgumentException();
            }
            boolean[] above = over == -1 ? new boolean[0] : classes[over];
            if (size == 100 || above.length + n > 64) {
                throw new IllegalStateException();
            }
            classes[size] = Arrays.copyOf(above, above.length + n);
            for (int i = 0; i < n; i++) {
                classes[size][above.length + i] = (refs >> i & 1) == 1;
            }
            prices[size] = price;
            return size++;
        }

        int object(int r, int c, boolean free) {
            root(r);
            argument(c >= 0 && c < size);
            return make(r, new Thing(1, c, free ? 0 : prices[c], 1 + classes[c].length, classes[c]));
        }

        int array(int r, int n, boolean refs) {
            root(r);
            argument(n >= 0 && n <= 100000);
            boolean[] isReference = new boolean[n];
            Arrays.fill(isReference, refs);
            return make(r, new Thing(refs ? 3 : 2, n, 2 + n, 2 + n, isReference));
        }

        int text(int r, int n, boolean free) {
            root(r);
            argument(n >= 0 && n <= 100000);
            int places = 2 + n / 4 + (n % 4 == 0 ? 0 : 1);
            return make(r, new Thing(4, n, free ? 0 : 2 + n, places, new boolean[n]));
        }

        int closure(int r, int n, int refs, int from) {
            root(r);
            argument(n >= 0 && n <= 8);
            Thing closure = new Thing(5, n, 10, 2 + n, new boolean[n]);
            for (int i = 0; i < n; i++) {
                long at = (long) from + i;
                if (at < 0 || at > 63) {
                    throw new IndexOutOfBoundsException();
                }
                closure.isReference[i] = (refs >> i & 1) == 1;
                if (closure.isReference[i]) {
                    closure.references[i] = roots[(int) at];
                }
            }
            return make(r, closure);
        }

        long put(int r, int i, long v) {
            long was = get(r, i);
            roots[r].numbers[i] = roots[r].kind == 4 ? Math.floorMod(v, 65536L) : v;
            return was;
        }

        long get(int r, int i) {
            Thing thing = with(r, i);
            argument(!thing.isReference[i]);
            return thing.numbers[i];
        }

        void link(int r, int i, int s) {
            Thing thing = with(r, i);
            root(s);
            argument(thing.isReference[i]);
            thing.references[i] = roots[s];
        }

        void follow(int r, int i, int s) {
            Thing thing = with(r, i);
            root(s);
            argument(thing.isReference[i]);
            roots[s] = thing.references[i];
        }

        void hold(int r, int s) {
            root(r);
            if (s != -1) {
                root(s);
            }
            roots[r] = s == -1 ? null : roots[s];
        }

        int told(int r, int what) {
            root(r);
            argument(what >= 0 && what <= 3);
            Thing thing = roots[r];
            if (what == 3) {
                int least = 0;
                while (roots[least] != thing) {
                    least++;
                }
                return least;
            }
            if (thing == null) {
                return 0;
            }
            return what == 0 ? thing.kind : what == 1 ? thing.told : thing.cells;
        }

        int every(int n) {
            argument(n >= 0);
            int was = every;
            every = n;
            return was;
        }

        int cells() {
            return reached().stream().mapToInt(t -> t.cells).sum();
        }

        int places() {
            return reached().stream().mapToInt(t -> t.places).sum();
        }

        int count(int r) {
            return roots[r] == null ? 0 : roots[r].isReference.length;
        }

        private int make(int r, Thing thing) {
            if (cells() + thing.cells > 100000 || places() + thing.places > 180000) {
                throw new IllegalStateException();
            }
            roots[r] = thing;
            made += thing.cells;
            return thing.cells;
        }

        private Set<Thing> reached() {
            Set<Thing> seen = Collections.newSetFromMap(new IdentityHashMap<>());
            Deque<Thing> waiting = new ArrayDeque<>();
            for (Thing root : roots) {
                see(root, seen, waiting);
            }
            while (!waiting.isEmpty()) {
                for (Thing to : waiting.pop().references) {
                    see(to, seen, waiting);
                }
            }
            return seen;
        }

        private static void see(Thing thing, Set<Thing> seen, Deque<Thing> waiting) {
            if (thing != null && seen.add(thing)) {
                waiting.push(thing);
            }
        }

        private Thing with(int r, int i) {
            root(r);
            if (roots[r] == null || i < 0 || i >= roots[r].isReference.length) {
                throw new IndexOutOfBoundsException();
            }
            return roots[r];
        }

        private static void root(int r) {
            if (r < 0 || r > 63) {
                throw new IndexOutOfBoundsException();
            }
        }

        private static void argument(boolean fine) {
            if (!fine) {
                throw new IllegalArgumentException();
            }
        }
    }
}
