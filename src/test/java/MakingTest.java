/** Promises 3 to 6: object, array, text and closure. RoomTest tells when one may be made. */
public final class MakingTest {
    private static final Check CHECK = new Check();
    private static final int[] NO_LENGTHS = {-1, 100001, Integer.MIN_VALUE, Integer.MAX_VALUE};

    public static void main(String[] args) {
        objects();
        objectsOfClassesThatAreNone();
        arrays();
        arraysHave0To100000();
        texts();
        textsHave0To100000();
        closures();
        closuresHave0To8Places();
        otherBitsOfAClosureDoNotMatter();
        closureCapturesNone();
        closureCapturesWhatItsRootHeld();
        closureFromTheFirstAndTheLastRoots();
        closureFromRootsThatAreNone();
        closureOfNothingFromAnywhere();
        rootsAre0To63();
        rootBeforeArgument();
        argumentBeforeState();
        closureRootsBehindItsN();
        closureRootsBeforeState();
        refusedMakingChangesNothing();
        newThingsAreEmptyInUsedMemory();
        CHECK.end("MakingTest");
    }

    private static void objects() {
        MovingHeap x = new MovingHeap();
        x.shape(-1, 2, 0b10, 12);
        x.shape(-1, 0, 0, 3);
        CHECK.due("object", x.object(0, 0, false), 12);
        CHECK.due("free object", x.object(63, 0, true), 0);
        CHECK.due("object without fields", x.object(1, 1, false), 3);
        CHECK.due("kind", x.told(0, 0), 1);
        CHECK.due("class", x.told(1, 1), 1);
        CHECK.due("cells", x.told(0, 2), 12);
        CHECK.due("cells of a free one", x.told(63, 2), 0);
        CHECK.due("number at first", x.get(0, 0), 0);
        x.follow(0, 1, 2);
        CHECK.due("reference at first", x.told(2, 0), 0);
        CHECK.throwsIt(Check.BOUNDS, "object without fields", () -> x.get(1, 0));
    }

    private static void objectsOfClassesThatAreNone() {
        MovingHeap x = new MovingHeap();
        x.shape(-1, 1, 0, 4);
        x.shape(-1, 1, 0, 5);
        CHECK.due("the first class", x.object(0, 0, false), 4);
        CHECK.due("the last class", x.object(0, 1, false), 5);
        for (int c : new int[] {-1, 2, 100, Integer.MIN_VALUE, Integer.MAX_VALUE}) {
            CHECK.throwsIt(Check.ARGUMENT, "class " + c, () -> x.object(0, c, false));
            CHECK.throwsIt(Check.ARGUMENT, "class " + c + ", free", () -> x.object(0, c, true));
        }
    }

    private static void arrays() {
        MovingHeap x = new MovingHeap();
        CHECK.due("numbers", x.array(0, 5, false), 7);
        CHECK.due("references", x.array(1, 5, true), 7);
        CHECK.due("kind of numbers", x.told(0, 0), 2);
        CHECK.due("kind of references", x.told(1, 0), 3);
        CHECK.due("n", x.told(1, 1), 5);
        CHECK.due("last element", x.put(0, 4, Long.MIN_VALUE), 0);
        x.follow(1, 4, 0);
        CHECK.due("reference at first", x.told(0, 0), 0);
    }

    private static void arraysHave0To100000() {
        MovingHeap x = new MovingHeap();
        for (boolean refs : new boolean[] {false, true}) {
            CHECK.due("n 0", x.array(0, 0, refs), 2);
            CHECK.due("kind of n 0", x.told(0, 0), refs ? 3 : 2);
            CHECK.due("n 0 is told", x.told(0, 1), 0);
            // 100000 is an n, but more cells than there are.
            CHECK.throwsIt(Check.STATE, "n 100000", () -> x.array(0, 100000, refs));
            for (int n : NO_LENGTHS) {
                CHECK.throwsIt(Check.ARGUMENT, "n " + n, () -> x.array(0, n, refs));
            }
        }
    }

    private static void texts() {
        MovingHeap x = new MovingHeap();
        CHECK.due("text", x.text(0, 9, false), 11);
        CHECK.due("free text", x.text(1, 9, true), 0);
        CHECK.due("kind", x.told(0, 0), 4);
        CHECK.due("kind of a free one", x.told(1, 0), 4);
        CHECK.due("n of a free one", x.told(1, 1), 9);
        CHECK.due("cells of a free one", x.told(1, 2), 0);
        for (int i = 0; i < 9; i++) {
            CHECK.due("character at first", x.get(0, i), 0);
        }
    }

    private static void textsHave0To100000() {
        MovingHeap x = new MovingHeap();
        CHECK.due("n 0", x.text(0, 0, false), 2);
        CHECK.due("n 0 is told", x.told(0, 1), 0);
        CHECK.due("n 0, free", x.text(1, 0, true), 0);
        CHECK.due("n 100000, free", x.text(2, 100000, true), 0);
        CHECK.due("n 100000 is told", x.told(2, 1), 100000);
        CHECK.due("the last character", x.put(2, 99999, 7), 0);
        CHECK.throwsIt(Check.BOUNDS, "behind the last", () -> x.get(2, 100000));
        CHECK.throwsIt(Check.STATE, "n 100000, not free", () -> x.text(3, 100000, false));
        for (int n : NO_LENGTHS) {
            CHECK.throwsIt(Check.ARGUMENT, "n " + n, () -> x.text(0, n, false));
            CHECK.throwsIt(Check.ARGUMENT, "n " + n + ", free", () -> x.text(0, n, true));
        }
    }

    private static void closures() {
        MovingHeap x = new MovingHeap();
        x.array(1, 1, false);
        CHECK.due("closure", x.closure(2, 3, 0b010, 0), 10);
        CHECK.due("kind", x.told(2, 0), 5);
        CHECK.due("n", x.told(2, 1), 3);
        CHECK.due("cells", x.told(2, 2), 10);
        CHECK.due("place 0 is a number", x.put(2, 0, 5), 0);
        CHECK.due("place 2 is a number", x.put(2, 2, 6), 0);
        CHECK.throwsIt(Check.ARGUMENT, "place 1 is none", () -> x.get(2, 1));
        CHECK.throwsIt(Check.BOUNDS, "there is no place 3", () -> x.get(2, 3));
        x.follow(2, 1, 9);
        CHECK.due("place 1 is what root 1 held", x.told(9, 3), 1);
    }

    private static void closuresHave0To8Places() {
        MovingHeap x = new MovingHeap();
        CHECK.due("n 0", x.closure(0, 0, 0, 0), 10);
        CHECK.due("n 0 is told", x.told(0, 1), 0);
        CHECK.throwsIt(Check.BOUNDS, "n 0 has no place", () -> x.get(0, 0));
        CHECK.due("n 8", x.closure(0, 8, 0, 0), 10);
        CHECK.due("n 8 is told", x.told(0, 1), 8);
        CHECK.due("place 7", x.put(0, 7, 1), 0);
        CHECK.throwsIt(Check.BOUNDS, "there is no place 8", () -> x.get(0, 8));
        for (int n : new int[] {-1, 9, Integer.MIN_VALUE, Integer.MAX_VALUE}) {
            CHECK.throwsIt(Check.ARGUMENT, "n " + n, () -> x.closure(0, n, 0, 0));
        }
    }

    private static void otherBitsOfAClosureDoNotMatter() {
        MovingHeap x = new MovingHeap();
        CHECK.due("n 0, all bits", x.closure(0, 0, -1, 0), 10);
        CHECK.due("it is told as any", x.told(0, 1) * 100 + x.told(0, 2), 10);
        x.closure(1, 8, -1 << 8, 0);
        x.closure(2, 8, -1, 0);
        x.closure(3, 1, -2, 0);
        for (int i = 0; i < 8; i++) {
            int place = i;
            CHECK.due("a number", x.put(1, i, 1), 0);
            CHECK.throwsIt(Check.ARGUMENT, "a reference", () -> x.get(2, place));
        }
        CHECK.due("a number", x.put(3, 0, 1), 0);
        CHECK.due("collect", x.collect(), 40);
    }

    private static void closureCapturesNone() {
        MovingHeap x = new MovingHeap();
        x.array(55, 1, false);
        CHECK.due("roots that hold none are roots", x.closure(3, 8, 0xff, 50), 10);
        for (int i = 0; i < 8; i++) {
            x.follow(3, i, 4);
            CHECK.due("what root " + (50 + i) + " held", x.told(4, 0), i == 5 ? 2 : 0);
        }
    }

    private static void closureCapturesWhatItsRootHeld() {
        for (int due = 0; due <= 1; due++) {
            MovingHeap x = new MovingHeap();
            x.every(due);
            x.array(4, 1, false);
            x.text(5, 2, false);
            x.array(6, 3, true);
            x.closure(5, 3, 0b111, 4);
            int[] kinds = {2, 4, 3};
            for (int i = 0; i < 3; i++) {
                x.follow(5, i, 10 + i);
                CHECK.due("captured kind", x.told(10 + i, 0), kinds[i]);
                CHECK.due("captured n", x.told(10 + i, 1), i + 1);
            }
            CHECK.due("the same", x.told(10, 3), 4);
            CHECK.due("the root has moved on", x.told(11, 3), 11);
            x.hold(6, -1);
            CHECK.due("the place has not", x.told(12, 0), 3);
        }
    }

    private static void closureFromTheFirstAndTheLastRoots() {
        MovingHeap x = new MovingHeap();
        x.array(0, 1, false);
        x.array(63, 2, false);
        CHECK.due("roots 0 to 7", x.closure(20, 8, 0xff, 0), 10);
        CHECK.due("roots 56 to 63", x.closure(21, 8, 0xff, 56), 10);
        CHECK.due("root 63", x.closure(22, 1, 1, 63), 10);
        x.follow(20, 0, 30);
        x.follow(21, 7, 31);
        x.follow(22, 0, 32);
        CHECK.due("what root 0 held", x.told(30, 3), 0);
        CHECK.due("what root 63 held", x.told(31, 1), 2);
        CHECK.due("what root 63 held", x.told(32, 3), 31);
    }

    private static void closureFromRootsThatAreNone() {
        MovingHeap x = new MovingHeap();
        // Be the places references, numbers, or just the one with no root a number.
        for (int refs : new int[] {0xff, 0, 0x7f, 0xfe}) {
            CHECK.throwsIt(Check.BOUNDS, "-1", () -> x.closure(0, 1, refs, -1));
            CHECK.throwsIt(Check.BOUNDS, "-1 to 6", () -> x.closure(0, 8, refs, -1));
            CHECK.throwsIt(Check.BOUNDS, "-8 to -1", () -> x.closure(0, 8, refs, -8));
            CHECK.throwsIt(Check.BOUNDS, "64", () -> x.closure(0, 1, refs, 64));
            CHECK.throwsIt(Check.BOUNDS, "63 and 64", () -> x.closure(0, 2, refs, 63));
            CHECK.throwsIt(Check.BOUNDS, "57 to 64", () -> x.closure(0, 8, refs, 57));
            CHECK.throwsIt(Check.BOUNDS, "most", () -> x.closure(0, 1, refs, Integer.MAX_VALUE));
            // Here from + i wraps round.
            CHECK.throwsIt(Check.BOUNDS, "round", () -> x.closure(0, 8, refs, Integer.MAX_VALUE - 3));
            CHECK.throwsIt(Check.BOUNDS, "least", () -> x.closure(0, 8, refs, Integer.MIN_VALUE));
        }
    }

    private static void closureOfNothingFromAnywhere() {
        MovingHeap x = new MovingHeap();
        for (int from : new int[] {-1, 0, 63, 64, Integer.MIN_VALUE, Integer.MAX_VALUE}) {
            CHECK.due("no places from " + from, x.closure(0, 0, -1, from), 10);
        }
    }

    private static void rootsAre0To63() {
        MovingHeap x = new MovingHeap();
        x.shape(-1, 1, 0, 1);
        for (int r : Samples.NO_ROOTS) {
            CHECK.throwsIt(Check.BOUNDS, "object in " + r, () -> x.object(r, 0, false));
            CHECK.throwsIt(Check.BOUNDS, "array in " + r, () -> x.array(r, 0, false));
            CHECK.throwsIt(Check.BOUNDS, "text in " + r, () -> x.text(r, 0, false));
            CHECK.throwsIt(Check.BOUNDS, "closure in " + r, () -> x.closure(r, 0, 0, 0));
        }
        for (int r : new int[] {0, 63}) {
            CHECK.due("object in " + r, x.object(r, 0, false) + x.told(r, 0), 1 + 1);
            CHECK.due("array in " + r, x.array(r, 0, true) + x.told(r, 0), 2 + 3);
            CHECK.due("text in " + r, x.text(r, 0, false) + x.told(r, 0), 2 + 4);
            CHECK.due("closure in " + r, x.closure(r, 0, 0, 0) + x.told(r, 0), 10 + 5);
        }
    }

    private static void rootBeforeArgument() {
        MovingHeap x = new MovingHeap();
        for (int r : Samples.NO_ROOTS) {
            CHECK.throwsIt(Check.BOUNDS, "object, class too", () -> x.object(r, 0, false));
            CHECK.throwsIt(Check.BOUNDS, "array, n too", () -> x.array(r, -1, true));
            CHECK.throwsIt(Check.BOUNDS, "text, n too", () -> x.text(r, 100001, true));
            CHECK.throwsIt(Check.BOUNDS, "closure, n too", () -> x.closure(r, 9, 0, 0));
        }
    }

    private static void argumentBeforeState() {
        MovingHeap x = Samples.withCellsLeft(0, 0);
        CHECK.throwsIt(Check.BOUNDS, "object, root", () -> x.object(64, 0, false));
        CHECK.throwsIt(Check.BOUNDS, "array, root", () -> x.array(64, 0, false));
        CHECK.throwsIt(Check.BOUNDS, "text, root", () -> x.text(64, 0, false));
        CHECK.throwsIt(Check.BOUNDS, "closure, root", () -> x.closure(64, 0, 0, 0));
        CHECK.throwsIt(Check.ARGUMENT, "object, class", () -> x.object(0, 3, false));
        CHECK.throwsIt(Check.ARGUMENT, "array, n", () -> x.array(0, 100001, false));
        CHECK.throwsIt(Check.ARGUMENT, "text, n", () -> x.text(0, 100001, false));
        CHECK.throwsIt(Check.ARGUMENT, "closure, n", () -> x.closure(0, 9, 0, 0));
    }

    private static void closureRootsBehindItsN() {
        MovingHeap x = new MovingHeap();
        CHECK.throwsIt(Check.ARGUMENT, "n 9 from -1", () -> x.closure(0, 9, 0, -1));
        CHECK.throwsIt(Check.ARGUMENT, "n -1 from 64", () -> x.closure(0, -1, 0, 64));
        CHECK.throwsIt(Check.ARGUMENT, "n 9 from 56", () -> x.closure(0, 9, 0, 56));
    }

    private static void closureRootsBeforeState() {
        MovingHeap x = Samples.withCellsLeft(9, 0);
        CHECK.throwsIt(Check.BOUNDS, "from 64", () -> x.closure(2, 1, 0, 64));
        CHECK.throwsIt(Check.BOUNDS, "from 57", () -> x.closure(2, 8, 0, 57));
        CHECK.throwsIt(Check.STATE, "from 56", () -> x.closure(2, 8, 0, 56));
    }

    private static void refusedMakingChangesNothing() {
        MovingHeap x = new MovingHeap();
        x.shape(-1, 1, 0, 1000);
        x.array(0, 99990, false);
        x.put(0, 3, 9);
        x.text(1, 6, false);
        x.put(1, 5, 8);
        x.hold(2, 1);
        int made = x.made();
        CHECK.throwsIt(Check.STATE, "object", () -> x.object(1, 0, false));
        CHECK.throwsIt(Check.STATE, "array", () -> x.array(1, 0, false));
        CHECK.throwsIt(Check.STATE, "text", () -> x.text(1, 0, false));
        CHECK.throwsIt(Check.STATE, "closure", () -> x.closure(1, 2, 3, 0));
        CHECK.throwsIt(Check.BOUNDS, "closure", () -> x.closure(1, 2, 3, 63));
        CHECK.throwsIt(Check.ARGUMENT, "object", () -> x.object(1, 1, false));
        CHECK.throwsIt(Check.ARGUMENT, "array", () -> x.array(1, -1, false));
        CHECK.throwsIt(Check.ARGUMENT, "text", () -> x.text(1, -1, false));
        CHECK.throwsIt(Check.ARGUMENT, "closure", () -> x.closure(1, 9, 3, 0));
        CHECK.due("made", x.made(), made);
        CHECK.due("numbers", x.get(0, 3), 9);
        CHECK.due("text", x.get(1, 5), 8);
        CHECK.due("n of the text", x.told(1, 1), 6);
        CHECK.due("the same", x.told(2, 3), 1);
        for (int r = 3; r < 64; r++) {
            CHECK.due("none", x.told(r, 0), 0);
        }
        CHECK.due("collect", x.collect(), 100000);
    }

    private static void newThingsAreEmptyInUsedMemory() {
        for (int collections = 1; collections <= 4; collections++) {
            MovingHeap x = withUsedMemory(collections);
            x.array(0, 10, false);
            x.array(1, 10, true);
            x.text(2, 10, false);
            x.closure(3, 8, 0, 0);
            x.object(4, 0, false);
            x.object(5, 1, false);
            for (int i = 0; i < 8; i++) {
                CHECK.due("number", x.get(0, i), 0);
                CHECK.due("character", x.get(2, i), 0);
                CHECK.due("place", x.get(3, i), 0);
                CHECK.due("field", x.get(4, i), 0);
                x.follow(1, i, 6);
                CHECK.due("reference", x.told(6, 0), 0);
                x.follow(5, i, 6);
                CHECK.due("reference", x.told(6, 0), 0);
            }
            CHECK.due("audit", x.audit(), 0);
        }
    }

    /** What was an array of numbers -1 has been moved that often, and is gone. */
    private static MovingHeap withUsedMemory(int collections) {
        MovingHeap x = new MovingHeap();
        x.shape(-1, 16, 0, 0);
        x.shape(-1, 16, -1, 0);
        x.array(0, 100, false);
        for (int i = 0; i < 100; i++) {
            x.put(0, i, -1);
        }
        for (int i = 1; i < collections; i++) {
            x.collect();
        }
        x.hold(0, -1);
        x.collect();
        return x;
    }
}
