import java.util.Arrays;

/**
 * A heap in which objects move: what is reached from roots is copied to the other half of its
 * memory, all else is gone. This class is the face: it looks at the arguments and throws. The
 * heap behind it never throws.
 */
public final class MovingHeap {
    private static final int MOST_ROOTS = 64;
    private static final int MOST_CLASSES = 100;
    private static final int MOST_FIELDS = 64;
    private static final int MOST_NEW_FIELDS = 16;
    private static final int MOST_PRICE = 1000;
    private static final int MOST_ELEMENTS = 100000;
    private static final int MOST_CAPTURED = 8;
    private static final int MOST_CELLS = 100000;
    private static final int MOST_PLACES = 180000;
    private static final int CLOSURE_CELLS = 10;

    /** The address of no thing; the word there is 0 for ever, the head of kind 0 with n 0. */
    private static final int NONE = 0;
    private static final int FIRST_THING = 1;

    private static final int OBJECT = 1;
    private static final int NUMBERS = 2;
    private static final int REFERENCES = 3;
    private static final int TEXT = 4;
    private static final int CLOSURE = 5;

    private final Shapes shapes;
    private final Heap heap;
    private int every;
    private int untilDue;
    private int madeCells;

    public MovingHeap() {
        heap = new Heap();
        shapes = heap.shapes;
    }

    public int shape(int over, int n, int refs, int price)
            throws IllegalArgumentException, IllegalStateException {
        if (over != -1 && !shapes.has(over)) {
            throw new IllegalArgumentException("over is no class");
        }
        if (n < 0 || n > MOST_NEW_FIELDS) {
            throw new IllegalArgumentException("n is not 0 to 16");
        }
        if (price < 0 || price > MOST_PRICE) {
            throw new IllegalArgumentException("price is not 0 to 1000");
        }
        if (!shapes.hasRoom(over, n)) {
            throw new IllegalStateException("too many classes or fields");
        }
        return shapes.add(over, n, refs, price);
    }

    public int object(int r, int c, boolean free)
            throws IndexOutOfBoundsException, IllegalArgumentException, IllegalStateException {
        requireRoot(r);
        if (!shapes.has(c)) {
            throw new IllegalArgumentException("c is no class");
        }
        return heap.holdNew(r, make(Head.of(OBJECT, free, c, shapes.fields[c])));
    }

    public int array(int r, int n, boolean refs)
            throws IndexOutOfBoundsException, IllegalArgumentException, IllegalStateException {
        requireRoot(r);
        requireLength(n);
        return heap.holdNew(r, make(Head.of(refs ? REFERENCES : NUMBERS, false, 0, n)));
    }

    public int text(int r, int n, boolean free)
            throws IndexOutOfBoundsException, IllegalArgumentException, IllegalStateException {
        requireRoot(r);
        requireLength(n);
        return heap.holdNew(r, make(Head.of(TEXT, free, 0, n)));
    }

    public int closure(int r, int n, int refs, int from)
            throws IndexOutOfBoundsException, IllegalArgumentException, IllegalStateException {
        requireRoot(r);
        if (n < 0 || n > MOST_CAPTURED) {
            throw new IllegalArgumentException("n is not 0 to 8");
        }
        if (n > 0 && (from < 0 || from > MOST_ROOTS - n)) {
            throw new IndexOutOfBoundsException("not all captured roots are roots");
        }
        int thing = make(Head.of(CLOSURE, false, refs & ((1 << n) - 1), n));
        // Before root r changes: the closure may capture what r held.
        heap.capture(thing, from);
        return heap.holdNew(r, thing);
    }

    public long put(int r, int i, long v)
            throws IndexOutOfBoundsException, IllegalArgumentException {
        int thing = thingWithNumber(r, i);
        long was = heap.number(thing, i);
        heap.setNumber(thing, i, v);
        return was;
    }

    public long get(int r, int i) throws IndexOutOfBoundsException, IllegalArgumentException {
        return heap.number(thingWithNumber(r, i), i);
    }

    public void link(int r, int i, int s)
            throws IndexOutOfBoundsException, IllegalArgumentException {
        int thing = thingWithReference(r, i, s);
        heap.setReference(thing, i, heap.roots[s]);
    }

    public void follow(int r, int i, int s)
            throws IndexOutOfBoundsException, IllegalArgumentException {
        int thing = thingWithReference(r, i, s);
        heap.roots[s] = heap.reference(thing, i);
    }

    public void hold(int r, int s) throws IndexOutOfBoundsException {
        requireRoot(r);
        if (s == -1) {
            heap.roots[r] = NONE;
            return;
        }
        requireRoot(s);
        heap.roots[r] = heap.roots[s];
    }

    public int told(int r, int what) throws IndexOutOfBoundsException, IllegalArgumentException {
        requireRoot(r);
        long head = heap.head(heap.roots[r]);
        switch (what) {
            case 0:
                return Head.kind(head);
            case 1:
                return Head.kind(head) == OBJECT ? Head.detail(head) : Head.count(head);
            case 2:
                return heap.cellsOf(head);
            case 3:
                return heap.leastRootLike(r);
            default:
                throw new IllegalArgumentException("what is not 0 to 3");
        }
    }

    public int collect() {
        heap.moveReached();
        return heap.cells;
    }

    public int every(int n) throws IllegalArgumentException {
        if (n < 0) {
            throw new IllegalArgumentException("n is below 0");
        }
        int was = every;
        every = n;
        untilDue = n;
        return was;
    }

    public int made() {
        return madeCells;
    }

    public int audit() {
        return heap.countLost();
    }

    private static void requireRoot(int r) {
        if (r < 0 || r >= MOST_ROOTS) {
            throw new IndexOutOfBoundsException("no such root");
        }
    }

    private static void requireLength(int n) {
        if (n < 0 || n > MOST_ELEMENTS) {
            throw new IllegalArgumentException("n is not 0 to 100000");
        }
    }

    private int thingWith(int r, int i) {
        requireRoot(r);
        int thing = heap.roots[r];
        if (i < 0 || i >= Head.count(heap.head(thing))) {
            throw new IndexOutOfBoundsException("nothing there");
        }
        return thing;
    }

    private int thingWithNumber(int r, int i) {
        int thing = thingWith(r, i);
        if (heap.isReference(heap.head(thing), i)) {
            throw new IllegalArgumentException("a reference, not a number");
        }
        return thing;
    }

    private int thingWithReference(int r, int i, int s) {
        int thing = thingWith(r, i);
        requireRoot(s);
        if (!heap.isReference(heap.head(thing), i)) {
            throw new IllegalArgumentException("a number, not a reference");
        }
        return thing;
    }

    private int make(long head) {
        // What lies in the heap is at least what is reached: only when that is too much does
        // a collection have to tell the two apart.
        if (untilDue == 1 || !heap.hasRoom(head)) {
            heap.moveReached();
        }
        if (!heap.hasRoom(head)) {
            throw new IllegalStateException("no room");
        }
        untilDue = untilDue > 1 ? untilDue - 1 : every;
        madeCells += heap.cellsOf(head);
        return heap.add(head);
    }

    /** The classes, a row for each thing that is known of them. */
    private static final class Shapes {
        int size;
        final int[] fields;
        final int[] prices;
        final long[] references;

        Shapes() {
            fields = new int[MOST_CLASSES];
            prices = new int[MOST_CLASSES];
            references = new long[MOST_CLASSES];
        }

        boolean has(int c) {
            return c >= 0 && c < size;
        }

        boolean hasRoom(int over, int n) {
            return size < MOST_CLASSES && fieldsAbove(over) + n <= MOST_FIELDS;
        }

        int add(int over, int n, int refs, int price) {
            int above = fieldsAbove(over);
            long inherited = has(over) ? references[over] : 0;
            long own = refs & ((1 << n) - 1);
            fields[size] = above + n;
            prices[size] = price;
            references[size] = inherited | own << above;
            size++;
            return size - 1;
        }

        private int fieldsAbove(int over) {
            return has(over) ? fields[over] : 0;
        }
    }

    /**
     * The head, the first word of a thing: kind (3 bits), free (1 bit), detail (8 bits: the class
     * of an object, which places of a closure are references), and n, the number of its fields,
     * elements, characters or places. It is above 0.
     */
    private static final class Head {
        private static final int FREE_BIT = 8;
        private static final int DETAIL_AT = 4;
        private static final int COUNT_AT = 12;

        static long of(int kind, boolean free, int detail, int count) {
            return kind | (free ? FREE_BIT : 0) | detail << DETAIL_AT | (long) count << COUNT_AT;
        }

        static int kind(long head) {
            return (int) head & 7;
        }

        static boolean isFree(long head) {
            return (head & FREE_BIT) != 0;
        }

        static int detail(long head) {
            return (int) (head >> DETAIL_AT) & 255;
        }

        static int count(long head) {
            return (int) (head >> COUNT_AT);
        }

        /** How many words of the memory the thing fills: never more than its places. */
        static int words(long head) {
            int n = count(head);
            return 1 + (kind(head) == TEXT ? (n + 3) / 4 : n);
        }

        static int places(long head) {
            return kind(head) == OBJECT ? words(head) : words(head) + 1;
        }

        static boolean mayRefer(long head) {
            int kind = kind(head);
            return kind == OBJECT || kind == REFERENCES || kind == CLOSURE;
        }
    }

    /**
     * Two halves of memory. In one of them things lie one behind the other from FIRST_THING to
     * top; a reference is the index of a thing's head there.
     */
    private static final class Heap {
        private static final long UNSEEN = 1;
        private static final long SEEN = 2;

        final Shapes shapes;
        final int[] roots;
        private long[] here;
        private long[] there;
        private int top;
        /** Of all things that lie in the heap, be they reached or not. */
        int cells;
        private int places;
        /** In an audit: the first thing of the chain of those whose references wait. */
        private int waiting;

        Heap() {
            shapes = new Shapes();
            roots = new int[MOST_ROOTS];
            here = new long[FIRST_THING + MOST_PLACES];
            there = new long[FIRST_THING + MOST_PLACES];
            top = FIRST_THING;
        }

        long head(int thing) {
            return here[thing];
        }

        int cellsOf(long head) {
            if (Head.isFree(head)) {
                return 0;
            }
            switch (Head.kind(head)) {
                case OBJECT:
                    return shapes.prices[Head.detail(head)];
                case NUMBERS:
                case REFERENCES:
                case TEXT:
                    return 2 + Head.count(head);
                case CLOSURE:
                    return CLOSURE_CELLS;
                default:
                    return 0;
            }
        }

        boolean isReference(long head, int i) {
            switch (Head.kind(head)) {
                case OBJECT:
                    return (shapes.references[Head.detail(head)] >>> i & 1) == 1;
                case REFERENCES:
                    return true;
                case CLOSURE:
                    return (Head.detail(head) >>> i & 1) == 1;
                default:
                    return false;
            }
        }

        long number(int thing, int i) {
            if (Head.kind(here[thing]) == TEXT) {
                return here[wordOfCharacter(thing, i)] >>> shiftOfCharacter(i) & 65535L;
            }
            return here[thing + 1 + i];
        }

        void setNumber(int thing, int i, long v) {
            if (Head.kind(here[thing]) == TEXT) {
                int word = wordOfCharacter(thing, i);
                int shift = shiftOfCharacter(i);
                here[word] = here[word] & ~(65535L << shift) | (v & 65535L) << shift;
            } else {
                here[thing + 1 + i] = v;
            }
        }

        int reference(int thing, int i) {
            return (int) here[thing + 1 + i];
        }

        void setReference(int thing, int i, int to) {
            here[thing + 1 + i] = to;
        }

        void capture(int closure, int from) {
            long head = here[closure];
            for (int i = 0; i < Head.count(head); i++) {
                if (isReference(head, i)) {
                    setReference(closure, i, roots[from + i]);
                }
            }
        }

        int holdNew(int r, int thing) {
            roots[r] = thing;
            return cellsOf(here[thing]);
        }

        int leastRootLike(int r) {
            for (int s = 0; s < r; s++) {
                if (roots[s] == roots[r]) {
                    return s;
                }
            }
            return r;
        }

        boolean hasRoom(long head) {
            return cells + cellsOf(head) <= MOST_CELLS
                    && places + Head.places(head) <= MOST_PLACES;
        }

        /** A new thing on top, all 0 and none: its address. Only where there is room. */
        int add(long head) {
            int thing = top;
            top += Head.words(head);
            addToTotals(head);
            // The half has been used before.
            Arrays.fill(here, thing, top, 0L);
            here[thing] = head;
            return thing;
        }

        /** A collection: the halves change places, and what is reached comes along. */
        void moveReached() {
            long[] left = here;
            here = there;
            there = left;
            top = FIRST_THING;
            cells = 0;
            places = 0;
            for (int r = 0; r < MOST_ROOTS; r++) {
                roots[r] = moved(roots[r]);
            }
            int thing = FIRST_THING;
            for (int steps = 0; steps < MOST_PLACES && thing < top; steps++) {
                moveReferred(thing);
                addToTotals(here[thing]);
                thing += Head.words(here[thing]);
            }
        }

        /** Marks the used half in the idle one, and follows all references from the roots. */
        int countLost() {
            markHeads();
            waiting = NONE;
            int lost = 0;
            for (int r = 0; r < MOST_ROOTS; r++) {
                lost += lookAt(roots[r]);
            }
            for (int steps = 0; steps < MOST_PLACES && waiting != NONE; steps++) {
                int thing = waiting;
                waiting = (int) (there[thing] >> 2);
                lost += lookBehind(thing);
            }
            return lost;
        }

        private static int wordOfCharacter(int thing, int i) {
            return thing + 1 + i / 4;
        }

        private static int shiftOfCharacter(int i) {
            return i % 4 * 16;
        }

        private void addToTotals(long head) {
            cells += cellsOf(head);
            places += Head.places(head);
        }

        /** The new address of a thing of the half that is left; the first to ask moves it. */
        private int moved(int thing) {
            if (thing == NONE) {
                return NONE;
            }
            long head = there[thing];
            // No head is below 0: it is the new address of a thing that has gone ahead.
            if (head < 0) {
                return (int) -head;
            }
            int words = Head.words(head);
            int to = top;
            System.arraycopy(there, thing, here, to, words);
            there[thing] = -to;
            top += words;
            return to;
        }

        private void moveReferred(int thing) {
            long head = here[thing];
            int count = Head.mayRefer(head) ? Head.count(head) : 0;
            for (int i = 0; i < count; i++) {
                // Most words are 0, to be left as they are: that is the cheaper question.
                if (here[thing + 1 + i] != 0 && isReference(head, i)) {
                    setReference(thing, i, moved(reference(thing, i)));
                }
            }
        }

        private void markHeads() {
            Arrays.fill(there, FIRST_THING, top, 0L);
            int thing = FIRST_THING;
            for (int steps = 0; steps < MOST_PLACES && thing < top; steps++) {
                there[thing] = UNSEEN;
                thing += Head.words(here[thing]);
            }
        }

        /** 1 if this is a reference to no thing; a thing not seen before is put in the chain. */
        private int lookAt(int thing) {
            if (thing == NONE) {
                return 0;
            }
            if (thing < FIRST_THING || thing >= top || there[thing] == 0) {
                return 1;
            }
            if (there[thing] == UNSEEN) {
                there[thing] = SEEN | (long) waiting << 2;
                waiting = thing;
            }
            return 0;
        }

        private int lookBehind(int thing) {
            long head = here[thing];
            int count = Head.mayRefer(head) ? Head.count(head) : 0;
            int lost = 0;
            for (int i = 0; i < count; i++) {
                if (here[thing + 1 + i] != 0 && isReference(head, i)) {
                    lost += lookAt(reference(thing, i));
                }
            }
            return lost;
        }
    }
}
