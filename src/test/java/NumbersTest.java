/** Promises 7 and 8: put and get. */
public final class NumbersTest {
    private static final Check CHECK = new Check();
    private static final int[] NO_INDEXES = {-1, 2, Integer.MIN_VALUE, Integer.MAX_VALUE};

    public static void main(String[] args) {
        putAnswersWhatItWas();
        numbersAreWholeLongs();
        charactersAre0To65535();
        putTakesTheLow16BitsOfACharacter();
        neighboursStayAsTheyAre();
        firstAndLastOfEachKind();
        rootsAre0To63();
        rootThatHoldsNone();
        indexThatIsNot();
        thingsWithoutAnyNumber();
        references();
        boundsBeforeArgument();
        refusedPutChangesNothing();
        CHECK.end("NumbersTest");
    }

    private static void putAnswersWhatItWas() {
        MovingHeap x = Samples.oneOfEach();
        for (int r : new int[] {0, 1, 3, 4}) {
            CHECK.due("at first", x.get(r, 0), 0);
            CHECK.due("at first", x.put(r, 0, 5), 0);
            CHECK.due("then", x.get(r, 0), 5);
            CHECK.due("get changes nothing", x.get(r, 0), 5);
            CHECK.due("then", x.put(r, 0, 6), 5);
            CHECK.due("then", x.get(r, 0), 6);
        }
        x.hold(9, 1);
        x.put(9, 1, 7);
        CHECK.due("the same thing in another root", x.get(1, 1), 7);
    }

    private static void numbersAreWholeLongs() {
        MovingHeap x = Samples.oneOfEach();
        long[] values = {1, -1, Long.MAX_VALUE, Long.MIN_VALUE, 0, 65536, -65536, 1L << 32};
        for (int r : new int[] {0, 1, 4}) {
            long was = 0;
            for (long v : values) {
                CHECK.due("put", x.put(r, 0, v), was);
                CHECK.due("get", x.get(r, 0), v);
                was = v;
            }
        }
    }

    private static void charactersAre0To65535() {
        MovingHeap x = new MovingHeap();
        x.text(0, 9, false);
        for (int i = 0; i < 9; i++) {
            for (int v : new int[] {65535, 0, 32768, 32767, 65535}) {
                x.put(0, i, v);
                CHECK.due("get", x.get(0, i), v);
            }
            CHECK.due("put answers no number below 0", x.put(0, i, 0), 65535);
        }
    }

    private static void putTakesTheLow16BitsOfACharacter() {
        MovingHeap x = new MovingHeap();
        x.text(0, 5, true);
        long[] values = {65536, 65537, -1, -65536, -65537, 0x123456789abcL, Long.MIN_VALUE, Long.MAX_VALUE};
        long[] low = {0, 1, 65535, 0, 65535, 0x9abc, 0, 65535};
        for (int i = 0; i < 5; i++) {
            long was = 0;
            for (int k = 0; k < values.length; k++) {
                CHECK.due("put", x.put(0, i, values[k]), was);
                CHECK.due("low 16 bits", x.get(0, i), low[k]);
                was = low[k];
            }
        }
    }

    private static void neighboursStayAsTheyAre() {
        MovingHeap x = new MovingHeap();
        x.text(0, 11, false);
        x.array(1, 11, false);
        for (int i = 0; i < 11; i++) {
            x.put(0, i, 65535 - i);
            x.put(1, i, -1 - i);
        }
        for (int i = 0; i < 11; i++) {
            long character = x.put(0, i, 0x5555555500000000L);
            long number = x.put(1, i, 0);
            for (int k = 0; k < 11; k++) {
                CHECK.due("character " + k, x.get(0, k), k == i ? 0 : 65535 - k);
                CHECK.due("number " + k, x.get(1, k), k == i ? 0 : -1 - k);
            }
            x.put(0, i, character);
            x.put(1, i, number);
        }
        x.collect();
        CHECK.due("moved", x.get(0, 10), 65525);
        CHECK.due("moved", x.get(1, 10), -11);
    }

    private static void firstAndLastOfEachKind() {
        MovingHeap x = Samples.withMostFields();
        x.array(2, 90000, false);
        x.text(3, 100000, true);
        x.closure(4, 8, 0, 0);
        int[] roots = {0, 2, 3, 4};
        int[] counts = {64, 90000, 100000, 8};
        for (int k = 0; k < roots.length; k++) {
            int r = roots[k];
            int n = counts[k];
            CHECK.due("the first", x.put(r, 0, 3), 0);
            CHECK.due("the last", x.put(r, n - 1, 4), 0);
            CHECK.throwsIt(Check.BOUNDS, "put behind the last", () -> x.put(r, n, 5));
            CHECK.throwsIt(Check.BOUNDS, "get behind the last", () -> x.get(r, n));
            CHECK.throwsIt(Check.BOUNDS, "put before the first", () -> x.put(r, -1, 5));
            CHECK.throwsIt(Check.BOUNDS, "get before the first", () -> x.get(r, -1));
            x.collect();
            CHECK.due("the first", x.get(r, 0), 3);
            CHECK.due("the last", x.get(r, n - 1), 4);
        }
    }

    private static void rootsAre0To63() {
        MovingHeap x = Samples.oneOfEach();
        x.hold(63, 1);
        CHECK.due("put in 63", x.put(63, 0, 5), 0);
        CHECK.due("get in 63", x.get(63, 0), 5);
        CHECK.due("put in 0", x.put(0, 0, 5), 0);
        CHECK.due("get in 0", x.get(0, 0), 5);
        for (int r : Samples.NO_ROOTS) {
            CHECK.throwsIt(Check.BOUNDS, "put in " + r, () -> x.put(r, 0, 1));
            CHECK.throwsIt(Check.BOUNDS, "get in " + r, () -> x.get(r, 0));
        }
    }

    private static void rootThatHoldsNone() {
        MovingHeap x = Samples.oneOfEach();
        for (int i : new int[] {0, -1, 1, Integer.MIN_VALUE, Integer.MAX_VALUE}) {
            CHECK.throwsIt(Check.BOUNDS, "put, none", () -> x.put(5, i, 1));
            CHECK.throwsIt(Check.BOUNDS, "get, none", () -> x.get(5, i));
        }
        x.hold(1, -1);
        CHECK.throwsIt(Check.BOUNDS, "put, none now", () -> x.put(1, 0, 1));
        CHECK.throwsIt(Check.BOUNDS, "get, none now", () -> x.get(1, 0));
    }

    private static void indexThatIsNot() {
        MovingHeap x = Samples.oneOfEach();
        for (int r = 0; r < 5; r++) {
            int root = r;
            for (int i : NO_INDEXES) {
                CHECK.throwsIt(Check.BOUNDS, "put(" + r + ", " + i + ")", () -> x.put(root, i, 1));
                CHECK.throwsIt(Check.BOUNDS, "get(" + r + ", " + i + ")", () -> x.get(root, i));
            }
        }
    }

    private static void thingsWithoutAnyNumber() {
        MovingHeap x = Samples.emptyOfEach();
        for (int r = 0; r < 5; r++) {
            int root = r;
            for (int i : new int[] {0, -1}) {
                CHECK.throwsIt(Check.BOUNDS, "put(" + r + ", " + i + ")", () -> x.put(root, i, 1));
                CHECK.throwsIt(Check.BOUNDS, "get(" + r + ", " + i + ")", () -> x.get(root, i));
            }
        }
    }

    private static void references() {
        MovingHeap x = Samples.oneOfEach();
        for (int r : new int[] {0, 2, 4}) {
            CHECK.throwsIt(Check.ARGUMENT, "put to a reference", () -> x.put(r, 1, 1));
            CHECK.throwsIt(Check.ARGUMENT, "get of a reference", () -> x.get(r, 1));
        }
        MovingHeap most = Samples.withMostFields();
        for (int i : new int[] {0, 31, 32, 63}) {
            CHECK.throwsIt(Check.ARGUMENT, "put to field " + i, () -> most.put(1, i, 1));
            CHECK.throwsIt(Check.ARGUMENT, "get of field " + i, () -> most.get(1, i));
        }
    }

    private static void boundsBeforeArgument() {
        MovingHeap x = Samples.oneOfEach();
        // All that the array has are references, and these are none of them.
        for (int i : NO_INDEXES) {
            CHECK.throwsIt(Check.BOUNDS, "put", () -> x.put(2, i, 1));
            CHECK.throwsIt(Check.BOUNDS, "get", () -> x.get(2, i));
        }
        MovingHeap most = Samples.withMostFields();
        CHECK.throwsIt(Check.BOUNDS, "put to field 64", () -> most.put(1, 64, 1));
        CHECK.throwsIt(Check.BOUNDS, "get of field 64", () -> most.get(1, 64));
    }

    private static void refusedPutChangesNothing() {
        MovingHeap x = Samples.oneOfEach();
        x.link(0, 1, 3);
        x.link(2, 1, 3);
        x.link(4, 1, 3);
        for (int r = 0; r < 5; r++) {
            int root = r;
            Check.thrown(() -> x.put(root, 2, 1));
            Check.thrown(() -> x.put(root, -1, 1));
        }
        for (int r : new int[] {0, 2, 4}) {
            Check.thrown(() -> x.put(r, 1, 1));
            x.follow(r, 1, 10);
            CHECK.due("the reference", x.told(10, 3), 3);
            CHECK.due("the root", x.told(r, 3), r);
        }
        CHECK.due("object", x.get(0, 0), 0);
        CHECK.due("numbers", x.get(1, 0) | x.get(1, 1), 0);
        CHECK.due("text", x.get(3, 0) | x.get(3, 1), 0);
        CHECK.due("closure", x.get(4, 0), 0);
        CHECK.due("audit", x.audit(), 0);
        CHECK.due("collect", x.collect(), 5 + 4 + 4 + 4 + 10);
    }
}
