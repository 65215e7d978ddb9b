/** Promises 7 to 12: put, get, link, follow, hold and told. */
public final class ContentsTest {
    private static final Check CHECK = new Check();
    private static final int[] NO_ROOTS = {-1, 64, Integer.MIN_VALUE, Integer.MAX_VALUE};

    public static void main(String[] args) {
        numbers();
        characters();
        wrongNumbers();
        references();
        closurePlaces();
        wrongReferences();
        throwingChangesNothing();
        holds();
        wrongHolds();
        toldOfEachKind();
        toldOfTheSame();
        wrongTold();
        CHECK.end("ContentsTest");
    }

    /** Roots 0 to 5: an object (number, reference), numbers, references, a text, a closure, none. */
    private static MovingHeap oneOfEach() {
        MovingHeap x = new MovingHeap();
        x.shape(-1, 2, 0b10, 5);
        x.object(0, 0, false);
        x.array(1, 2, false);
        x.array(2, 2, true);
        x.text(3, 2, false);
        x.closure(4, 2, 0b10, 0);
        return x;
    }

    private static void numbers() {
        MovingHeap x = oneOfEach();
        long[] values = {1, -1, Long.MAX_VALUE, Long.MIN_VALUE, 0, 65536, 1L << 32};
        for (int r : new int[] {0, 1, 4}) {
            long was = 0;
            for (long v : values) {
                CHECK.due("put answers what it was", x.put(r, 0, v), was);
                CHECK.due("get", x.get(r, 0), v);
                CHECK.due("get again", x.get(r, 0), v);
                was = v;
            }
        }
        x.put(1, 0, 3);
        CHECK.due("the other element", x.put(1, 1, 4), 0);
        CHECK.due("each its own", x.get(1, 0), 3);
        x.hold(9, 1);
        x.put(9, 1, 6);
        CHECK.due("the same thing in another root", x.get(1, 1), 6);
    }

    private static void characters() {
        MovingHeap x = new MovingHeap();
        x.text(0, 11, false);
        for (int i = 0; i < 11; i++) {
            CHECK.due("put", x.put(0, i, 65535 - i), 0);
        }
        for (int i = 0; i < 11; i++) {
            CHECK.due("put answers what it was", x.put(0, i, -1L - i), 65535 - i);
            CHECK.due("low 16 bits", x.get(0, i), 65535 - i);
        }
        CHECK.due("put", x.put(0, 5, 0x123456789abcL), 65530);
        CHECK.due("low 16 bits", x.get(0, 5), 0x9abc);
        CHECK.due("put", x.put(0, 5, Long.MIN_VALUE), 0x9abc);
        CHECK.due("low 16 bits", x.get(0, 5), 0);
        CHECK.due("the one before", x.get(0, 4), 65531);
        CHECK.due("the one behind", x.get(0, 6), 65529);
        CHECK.due("put", x.put(0, 7, 65536L), 65528);
        CHECK.due("low 16 bits", x.get(0, 7), 0);
        x.collect();
        CHECK.due("moved", x.get(0, 4), 65531);
        CHECK.due("moved", x.get(0, 10), 65525);
    }

    private static void wrongNumbers() {
        MovingHeap x = oneOfEach();
        for (int r : NO_ROOTS) {
            CHECK.throwsIt(Check.BOUNDS, "put(r)", () -> x.put(r, 0, 1));
            CHECK.throwsIt(Check.BOUNDS, "get(r)", () -> x.get(r, 0));
        }
        for (int r = 0; r < 5; r++) {
            int root = r;
            for (int i : new int[] {-1, 2, Integer.MIN_VALUE, Integer.MAX_VALUE}) {
                CHECK.throwsIt(Check.BOUNDS, "put(" + r + ", i)", () -> x.put(root, i, 1));
                CHECK.throwsIt(Check.BOUNDS, "get(" + r + ", i)", () -> x.get(root, i));
            }
        }
        CHECK.throwsIt(Check.BOUNDS, "put, none", () -> x.put(5, 0, 1));
        CHECK.throwsIt(Check.BOUNDS, "get, none", () -> x.get(5, 0));
        for (int r : new int[] {0, 2, 4}) {
            CHECK.throwsIt(Check.ARGUMENT, "put to a reference", () -> x.put(r, 1, 1));
            CHECK.throwsIt(Check.ARGUMENT, "get of a reference", () -> x.get(r, 1));
        }
        CHECK.due("all references are as they were", x.audit(), 0);
    }

    private static void references() {
        MovingHeap x = oneOfEach();
        x.link(0, 1, 3);
        x.follow(0, 1, 10);
        CHECK.due("the text", x.told(10, 3), 3);
        x.link(2, 0, 1);
        x.link(2, 1, 2);
        x.follow(2, 0, 11);
        x.follow(2, 1, 12);
        CHECK.due("the numbers", x.told(11, 3), 1);
        CHECK.due("itself", x.told(12, 3), 2);
        x.link(2, 0, 5);
        x.follow(2, 0, 11);
        CHECK.due("none again", x.told(11, 0), 0);
        CHECK.due("the other one stays", x.told(12, 3), 2);
        x.follow(2, 1, 2);
        CHECK.due("the root it came from", x.told(2, 0), 3);
        x.follow(0, 1, 0);
        CHECK.due("the root it came from", x.told(0, 3), 0);
        CHECK.due("the root it came from", x.told(3, 3), 0);
        CHECK.due("audit", x.audit(), 0);
    }

    private static void closurePlaces() {
        MovingHeap x = oneOfEach();
        x.follow(4, 1, 10);
        CHECK.due("captured", x.told(10, 3), 1);
        x.link(4, 1, 4);
        x.follow(4, 1, 10);
        CHECK.due("itself", x.told(10, 3), 4);
        x.collect();
        x.follow(10, 1, 11);
        CHECK.due("itself, moved", x.told(11, 3), 4);
        CHECK.throwsIt(Check.ARGUMENT, "link a number", () -> x.link(4, 0, 1));
    }

    private static void wrongReferences() {
        MovingHeap x = oneOfEach();
        for (int r : NO_ROOTS) {
            CHECK.throwsIt(Check.BOUNDS, "link(r)", () -> x.link(r, 1, 0));
            CHECK.throwsIt(Check.BOUNDS, "link(s)", () -> x.link(0, 1, r));
            CHECK.throwsIt(Check.BOUNDS, "link(s), a number too", () -> x.link(0, 0, r));
            CHECK.throwsIt(Check.BOUNDS, "follow(r)", () -> x.follow(r, 1, 0));
            CHECK.throwsIt(Check.BOUNDS, "follow(s)", () -> x.follow(0, 1, r));
            CHECK.throwsIt(Check.BOUNDS, "follow(s), a number too", () -> x.follow(0, 0, r));
        }
        for (int r = 0; r < 5; r++) {
            int root = r;
            for (int i : new int[] {-1, 2, Integer.MIN_VALUE, Integer.MAX_VALUE}) {
                CHECK.throwsIt(Check.BOUNDS, "link(" + r + ", i)", () -> x.link(root, i, 0));
                CHECK.throwsIt(Check.BOUNDS, "follow(" + r + ", i)", () -> x.follow(root, i, 0));
            }
        }
        CHECK.throwsIt(Check.BOUNDS, "link, none", () -> x.link(5, 0, 0));
        CHECK.throwsIt(Check.BOUNDS, "follow, none", () -> x.follow(5, 0, 0));
        for (int r : new int[] {0, 1, 3, 4}) {
            CHECK.throwsIt(Check.ARGUMENT, "link a number", () -> x.link(r, 0, 0));
            CHECK.throwsIt(Check.ARGUMENT, "follow a number", () -> x.follow(r, 0, 0));
        }
    }

    private static void throwingChangesNothing() {
        MovingHeap x = oneOfEach();
        x.put(0, 0, 4);
        x.put(3, 0, 5);
        Check.thrown(Check.asCall(() -> x.follow(0, 0, 6)));
        Check.thrown(Check.asCall(() -> x.follow(0, 2, 6)));
        Check.thrown(Check.asCall(() -> x.hold(0, 64)));
        Check.thrown(Check.asCall(() -> x.link(3, 0, 1)));
        Check.thrown(Check.asCall(() -> x.link(0, 0, 1)));
        CHECK.due("root 6", x.told(6, 0), 0);
        CHECK.due("root 0", x.told(0, 0), 1);
        CHECK.due("the number", x.get(0, 0), 4);
        CHECK.due("the character", x.get(3, 0), 5);
    }

    private static void holds() {
        MovingHeap x = oneOfEach();
        x.hold(63, 3);
        CHECK.due("holds the same", x.told(63, 3), 3);
        x.hold(3, 3);
        CHECK.due("itself", x.told(3, 0), 4);
        x.hold(3, -1);
        CHECK.due("none", x.told(3, 0), 0);
        CHECK.due("the other root still holds it", x.told(63, 0), 4);
        x.hold(63, 5);
        CHECK.due("what holds none", x.told(63, 0), 0);
        x.hold(5, -1);
        CHECK.due("none as before", x.told(5, 0), 0);
    }

    private static void wrongHolds() {
        MovingHeap x = oneOfEach();
        for (int r : NO_ROOTS) {
            CHECK.throwsIt(Check.BOUNDS, "hold(r)", () -> x.hold(r, 0));
            CHECK.throwsIt(Check.BOUNDS, "hold(r, -1)", () -> x.hold(r, -1));
            if (r != -1) {
                CHECK.throwsIt(Check.BOUNDS, "hold(s)", () -> x.hold(0, r));
            }
        }
        CHECK.throwsIt(Check.BOUNDS, "hold(0, -2)", () -> x.hold(0, -2));
        CHECK.due("nothing changed", x.told(0, 0), 1);
    }

    private static void toldOfEachKind() {
        MovingHeap x = oneOfEach();
        int[][] want = {{1, 0, 5, 0}, {2, 2, 4, 1}, {3, 2, 4, 2}, {4, 2, 4, 3}, {5, 2, 10, 4}, {0, 0, 0, 5}};
        for (int round = 0; round < 3; round++) {
            for (int r = 0; r < want.length; r++) {
                for (int what = 0; what < 4; what++) {
                    CHECK.due("told(" + r + ", " + what + ")", x.told(r, what), want[r][what]);
                }
            }
            x.collect();
        }
        x.shape(-1, 3, 0, 9);
        x.object(6, 1, true);
        CHECK.due("kind of a free object", x.told(6, 0), 1);
        CHECK.due("class of a free object", x.told(6, 1), 1);
        CHECK.due("cells of a free object", x.told(6, 2), 0);
    }

    private static void toldOfTheSame() {
        MovingHeap x = oneOfEach();
        x.hold(40, 1);
        x.hold(50, 1);
        x.hold(1, -1);
        CHECK.due("least root", x.told(50, 3), 40);
        CHECK.due("least root", x.told(40, 3), 40);
        CHECK.due("least root with none", x.told(63, 3), 1);
        CHECK.due("least root with none", x.told(1, 3), 1);
        x.collect();
        CHECK.due("moved", x.told(50, 3), 40);
        CHECK.due("moved", x.told(63, 3), 1);
        x.array(51, 2, false);
        CHECK.due("alike is not the same", x.told(51, 3), 51);
        for (int r = 0; r < 64; r++) {
            x.hold(r, 0);
        }
        CHECK.due("all the same", x.told(63, 3), 0);
    }

    private static void wrongTold() {
        MovingHeap x = oneOfEach();
        for (int r : NO_ROOTS) {
            CHECK.throwsIt(Check.BOUNDS, "told(r, 0)", () -> x.told(r, 0));
            CHECK.throwsIt(Check.BOUNDS, "told(r, 4)", () -> x.told(r, 4));
        }
        for (int what : new int[] {-1, 4, Integer.MIN_VALUE, Integer.MAX_VALUE}) {
            CHECK.throwsIt(Check.ARGUMENT, "told(0, what)", () -> x.told(0, what));
            CHECK.throwsIt(Check.ARGUMENT, "told(5, what)", () -> x.told(5, what));
        }
    }
}
