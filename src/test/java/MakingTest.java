/** Promises 3 to 6: object, array, text and closure, and when a thing may be made. */
public final class MakingTest {
    private static final Check CHECK = new Check();

    public static void main(String[] args) {
        objects();
        arrays();
        texts();
        closures();
        closureCapturesWhatItsRootHeld();
        wrongArguments();
        wrongClosures();
        newThingsAreEmptyInUsedMemory();
        mostCells();
        mostPlaces();
        placesOfEachKind();
        whatWasInTheRootStillCounts();
        whatIsNotReachedMakesRoom();
        failingChangesNothing();
        CHECK.end("MakingTest");
    }

    private static void objects() {
        MovingHeap x = new MovingHeap();
        x.shape(-1, 2, 0b10, 12);
        x.shape(-1, 0, 0, 3);
        CHECK.due("object", x.object(0, 0, false), 12);
        CHECK.due("free object", x.object(63, 0, true), 0);
        CHECK.due("object without fields", x.object(1, 1, false), 3);
        CHECK.due("kind", x.told(0, 0), 1);
        CHECK.due("class", x.told(1, 1), 1);
        CHECK.due("cells", x.told(0, 2), 12);
        CHECK.due("cells of a free one", x.told(63, 2), 0);
        CHECK.due("number at first", x.get(0, 0), 0);
        x.follow(0, 1, 2);
        CHECK.due("reference at first", x.told(2, 0), 0);
        CHECK.throwsIt(Check.BOUNDS, "object without fields", () -> x.get(1, 0));
    }

    private static void arrays() {
        MovingHeap x = new MovingHeap();
        CHECK.due("numbers", x.array(0, 5, false), 7);
        CHECK.due("references", x.array(1, 5, true), 7);
        CHECK.due("no numbers", x.array(2, 0, false), 2);
        CHECK.due("no references", x.array(3, 0, true), 2);
        CHECK.due("kind of numbers", x.told(0, 0), 2);
        CHECK.due("kind of references", x.told(1, 0), 3);
        CHECK.due("kind of no numbers", x.told(2, 0), 2);
        CHECK.due("kind of no references", x.told(3, 0), 3);
        CHECK.due("n", x.told(1, 1), 5);
        CHECK.due("last element", x.put(0, 4, Long.MIN_VALUE), 0);
        x.follow(1, 4, 0);
        CHECK.due("reference at first", x.told(0, 0), 0);
    }

    private static void texts() {
        MovingHeap x = new MovingHeap();
        CHECK.due("text", x.text(0, 9, false), 11);
        CHECK.due("free text", x.text(1, 9, true), 0);
        CHECK.due("no characters", x.text(2, 0, false), 2);
        CHECK.due("longest", x.text(3, 100000, true), 0);
        CHECK.due("kind", x.told(0, 0), 4);
        CHECK.due("kind of a free one", x.told(1, 0), 4);
        CHECK.due("n of a free one", x.told(1, 1), 9);
        CHECK.due("cells of a free one", x.told(1, 2), 0);
        CHECK.due("last character", x.put(3, 99999, 7), 0);
        CHECK.throwsIt(Check.BOUNDS, "behind the last", () -> x.get(3, 100000));
        CHECK.throwsIt(Check.BOUNDS, "behind the last of 9", () -> x.get(0, 9));
        for (int i = 0; i < 9; i++) {
            CHECK.due("character at first", x.get(0, i), 0);
        }
    }

    private static void closures() {
        MovingHeap x = new MovingHeap();
        CHECK.due("no places", x.closure(0, 0, -1, 0), 10);
        CHECK.due("all places", x.closure(1, 8, 0, 56), 10);
        CHECK.due("kind", x.told(0, 0), 5);
        CHECK.due("n 0", x.told(0, 1), 0);
        CHECK.due("n 8", x.told(1, 1), 8);
        CHECK.due("cells", x.told(1, 2), 10);
        CHECK.due("no places from nowhere", x.closure(0, 0, 0, -1), 10);
        CHECK.due("no places from nowhere", x.closure(0, 0, 0, 64), 10);
        CHECK.due("no places from nowhere", x.closure(0, 0, 0, Integer.MIN_VALUE), 10);
        x.closure(2, 3, 0b11010, 0);
        CHECK.due("place 0 is a number", x.put(2, 0, 5), 0);
        CHECK.due("place 2 is a number", x.put(2, 2, 6), 0);
        CHECK.throwsIt(Check.ARGUMENT, "place 1 is none", () -> x.get(2, 1));
        CHECK.throwsIt(Check.BOUNDS, "there is no place 3", () -> x.get(2, 3));
        x.follow(2, 1, 9);
        CHECK.due("place 1 is what root 1 held", x.told(9, 3), 1);
        x.closure(3, 8, 0x1ff, 50);
        for (int i = 0; i < 8; i++) {
            x.follow(3, i, 4);
            CHECK.due("what held none", x.told(4, 0), 0);
        }
    }

    private static void closureCapturesWhatItsRootHeld() {
        for (int due = 0; due <= 1; due++) {
            MovingHeap x = new MovingHeap();
            x.every(due);
            x.array(4, 1, false);
            x.text(5, 2, false);
            x.array(6, 3, true);
            x.closure(5, 3, 0b111, 4);
            int[] kinds = {2, 4, 3};
            for (int i = 0; i < 3; i++) {
                x.follow(5, i, 10 + i);
                CHECK.due("captured kind", x.told(10 + i, 0), kinds[i]);
                CHECK.due("captured n", x.told(10 + i, 1), i + 1);
            }
            CHECK.due("the same", x.told(10, 3), 4);
            CHECK.due("the root has moved on", x.told(11, 3), 11);
            x.hold(6, -1);
            CHECK.due("the place has not", x.told(12, 0), 3);
        }
    }

    private static void wrongArguments() {
        MovingHeap x = new MovingHeap();
        x.shape(-1, 1, 0, 1);
        for (int r : new int[] {-1, 64, Integer.MIN_VALUE, Integer.MAX_VALUE}) {
            CHECK.throwsIt(Check.BOUNDS, "object(r)", () -> x.object(r, 0, false));
            CHECK.throwsIt(Check.BOUNDS, "object(r), class too", () -> x.object(r, 1, false));
            CHECK.throwsIt(Check.BOUNDS, "array(r)", () -> x.array(r, 0, false));
            CHECK.throwsIt(Check.BOUNDS, "array(r), n too", () -> x.array(r, -1, true));
            CHECK.throwsIt(Check.BOUNDS, "text(r)", () -> x.text(r, 0, false));
            CHECK.throwsIt(Check.BOUNDS, "text(r), n too", () -> x.text(r, 100001, true));
            CHECK.throwsIt(Check.BOUNDS, "closure(r)", () -> x.closure(r, 0, 0, 0));
            CHECK.throwsIt(Check.BOUNDS, "closure(r), n too", () -> x.closure(r, 9, 0, 0));
        }
        for (int n : new int[] {-1, 100001, Integer.MIN_VALUE, Integer.MAX_VALUE}) {
            CHECK.throwsIt(Check.ARGUMENT, "array(n)", () -> x.array(0, n, false));
            CHECK.throwsIt(Check.ARGUMENT, "array(n) of references", () -> x.array(0, n, true));
            CHECK.throwsIt(Check.ARGUMENT, "text(n)", () -> x.text(0, n, false));
            CHECK.throwsIt(Check.ARGUMENT, "text(n) free", () -> x.text(0, n, true));
            CHECK.throwsIt(Check.ARGUMENT, "object(c)", () -> x.object(0, n, false));
        }
        CHECK.throwsIt(Check.ARGUMENT, "class 1 of 1", () -> x.object(0, 1, true));
        CHECK.due("nothing came of these", x.told(0, 0) + x.made(), 0);
    }

    private static void wrongClosures() {
        MovingHeap x = new MovingHeap();
        CHECK.throwsIt(Check.ARGUMENT, "n -1", () -> x.closure(0, -1, 0, 0));
        CHECK.throwsIt(Check.ARGUMENT, "n 9", () -> x.closure(0, 9, 0, 0));
        CHECK.throwsIt(Check.ARGUMENT, "n 9, from too", () -> x.closure(0, 9, 0, -1));
        CHECK.throwsIt(Check.ARGUMENT, "n least", () -> x.closure(0, Integer.MIN_VALUE, 0, 0));
        CHECK.throwsIt(Check.BOUNDS, "from -1", () -> x.closure(0, 1, 0, -1));
        CHECK.throwsIt(Check.BOUNDS, "from -1 of a number", () -> x.closure(0, 2, 2, -1));
        CHECK.throwsIt(Check.BOUNDS, "from 64", () -> x.closure(0, 1, 1, 64));
        CHECK.throwsIt(Check.BOUNDS, "63 and 64", () -> x.closure(0, 2, 0, 63));
        CHECK.throwsIt(Check.BOUNDS, "57 to 64", () -> x.closure(0, 8, 1, 57));
        CHECK.throwsIt(Check.BOUNDS, "most", () -> x.closure(0, 8, 1, Integer.MAX_VALUE));
        CHECK.throwsIt(Check.BOUNDS, "nearly most", () -> x.closure(0, 8, 1, Integer.MAX_VALUE - 3));
        CHECK.throwsIt(Check.BOUNDS, "least", () -> x.closure(0, 8, 1, Integer.MIN_VALUE));
        CHECK.due("root 63 is one", x.closure(0, 1, 1, 63), 10);
        x.array(1, 99988, false);
        CHECK.throwsIt(Check.BOUNDS, "before room", () -> x.closure(2, 1, 0, 64));
        CHECK.throwsIt(Check.STATE, "no room", () -> x.closure(2, 1, 0, 63));
    }

    private static void newThingsAreEmptyInUsedMemory() {
        MovingHeap x = new MovingHeap();
        x.shape(-1, 16, 0, 0);
        x.shape(-1, 16, -1, 0);
        for (int round = 0; round < 3; round++) {
            x.array(0, 4000, false);
            for (int i = 0; i < 150; i++) {
                x.put(0, i, -1);
            }
            x.hold(0, -1);
            x.collect();
            x.array(0, 10, false);
            x.array(1, 10, true);
            x.text(2, 10, false);
            x.closure(3, 8, 0, 0);
            x.object(4, 0, false);
            x.object(5, 1, false);
            for (int i = 0; i < 8; i++) {
                CHECK.due("number", x.get(0, i), 0);
                CHECK.due("character", x.get(2, i), 0);
                CHECK.due("place", x.get(3, i), 0);
                CHECK.due("field", x.get(4, i), 0);
                x.follow(1, i, 6);
                CHECK.due("reference", x.told(6, 0), 0);
                x.follow(5, i, 6);
                CHECK.due("reference", x.told(6, 0), 0);
            }
            CHECK.due("audit", x.audit(), 0);
        }
    }

    private static void mostCells() {
        MovingHeap x = new MovingHeap();
        x.shape(-1, 0, 0, 1);
        x.shape(-1, 0, 0, 0);
        CHECK.throwsIt(Check.STATE, "100001 cells", () -> x.array(0, 99999, false));
        CHECK.throwsIt(Check.STATE, "100002 cells", () -> x.array(0, 100000, true));
        CHECK.throwsIt(Check.STATE, "100001 cells", () -> x.text(0, 99999, false));
        CHECK.due("100000 cells", x.text(0, 99998, false), 100000);
        CHECK.throwsIt(Check.STATE, "one more", () -> x.object(1, 0, false));
        CHECK.throwsIt(Check.STATE, "two more", () -> x.array(1, 0, false));
        CHECK.throwsIt(Check.STATE, "two more", () -> x.text(1, 0, false));
        CHECK.throwsIt(Check.STATE, "ten more", () -> x.closure(1, 0, 0, 0));
        CHECK.due("a free object", x.object(1, 0, true), 0);
        CHECK.due("an object without a price", x.object(2, 1, false), 0);
        CHECK.due("a free text", x.text(3, 100000, true), 0);
        CHECK.due("all cells", x.collect(), 100000);
    }

    private static void mostPlaces() {
        MovingHeap x = new MovingHeap();
        x.shape(-1, 0, 0, 1);
        for (int r = 0; r < 7; r++) {
            x.text(r, 99992, true);
        }
        CHECK.due("179987 places", x.text(7, 19940, true), 0);
        CHECK.due("179999 places", x.array(8, 10, false), 12);
        CHECK.throwsIt(Check.STATE, "180001 places", () -> x.text(9, 0, true));
        CHECK.throwsIt(Check.STATE, "180001 places", () -> x.array(9, 0, true));
        CHECK.due("180000 places", x.object(9, 0, true), 0);
        CHECK.throwsIt(Check.STATE, "180001 places", () -> x.object(10, 0, true));
        CHECK.due("cells", x.collect(), 12);
        CHECK.due("audit", x.audit(), 0);
        CHECK.throwsIt(Check.STATE, "180001 places", () -> x.object(10, 0, true));
        x.hold(9, -1);
        CHECK.due("180000 places", x.object(10, 0, true), 0);
        x.put(8, 9, 77);
        x.collect();
        CHECK.due("kept", x.get(8, 9), 77);
    }

    private static void placesOfEachKind() {
        for (int n = 0; n <= 8; n++) {
            int fields = n;
            takesPlaces("object", 1 + n, (x) -> x.object(60, fields, false));
            takesPlaces("numbers", 2 + n, (x) -> x.array(60, fields, false));
            takesPlaces("references", 2 + n, (x) -> x.array(60, fields, true));
            takesPlaces("text", 2 + (n + 3) / 4, (x) -> x.text(60, fields, true));
            takesPlaces("text", 2 + (n + 3) / 4, (x) -> x.text(60, fields, false));
            takesPlaces("closure", 2 + n, (x) -> x.closure(60, fields, -1, 0));
        }
    }

    private interface Making {
        int make(MovingHeap x);
    }

    private static void takesPlaces(String what, int places, Making making) {
        CHECK.due(what + " in its places", making.make(withPlacesLeft(places)) < 0 ? 1 : 0, 0);
        CHECK.throwsIt(Check.STATE, what + " in one place less than " + places,
                () -> making.make(withPlacesLeft(places - 1)));
    }

    /** Class c has c fields; 180000 less that many places are reached. */
    private static MovingHeap withPlacesLeft(int left) {
        MovingHeap x = new MovingHeap();
        for (int c = 0; c <= 8; c++) {
            x.shape(-1, c, 0b101, 1);
        }
        for (int r = 0; r < 7; r++) {
            x.text(r, 99992, true);
        }
        x.text(7, (5000 - left - 2) * 4, true);
        return x;
    }

    private static void whatWasInTheRootStillCounts() {
        MovingHeap x = new MovingHeap();
        x.array(0, 50000, false);
        x.put(0, 49999, 5);
        CHECK.throwsIt(Check.STATE, "array", () -> x.array(0, 49997, false));
        CHECK.due("still there", x.get(0, 49999), 5);
        CHECK.due("just enough", x.array(0, 49996, false), 49998);
        CHECK.due("now only that", x.collect(), 49998);
        CHECK.throwsIt(Check.STATE, "array", () -> x.array(0, 50001, false));
        x.hold(0, -1);
        CHECK.due("nothing was there", x.array(0, 50001, false), 50003);
    }

    private static void whatIsNotReachedMakesRoom() {
        MovingHeap x = new MovingHeap();
        for (int i = 0; i < 100; i++) {
            CHECK.due("array", x.array(i % 64, 99998, i % 2 == 0), 100000);
            x.hold(i % 64, -1);
        }
        for (int i = 0; i < 100; i++) {
            CHECK.due("text", x.text(0, 100000, true), 0);
        }
        CHECK.due("collect", x.collect(), 0);
        CHECK.due("made", x.made(), 10000000);
        // A ring that no root reaches goes as well.
        x.array(0, 49998, true);
        x.array(1, 49998, true);
        x.link(0, 0, 1);
        x.link(1, 0, 0);
        CHECK.throwsIt(Check.STATE, "full", () -> x.array(2, 0, false));
        x.hold(1, -1);
        CHECK.throwsIt(Check.STATE, "still reached", () -> x.array(2, 0, false));
        x.hold(0, -1);
        CHECK.due("the ring is gone", x.array(2, 99998, false), 100000);
    }

    private static void failingChangesNothing() {
        MovingHeap x = new MovingHeap();
        x.shape(-1, 1, 0, 1000);
        x.array(0, 99990, false);
        x.put(0, 3, 9);
        x.text(1, 6, false);
        x.put(1, 5, 8);
        x.hold(2, 1);
        int made = x.made();
        CHECK.throwsIt(Check.STATE, "object", () -> x.object(1, 0, false));
        CHECK.throwsIt(Check.STATE, "array", () -> x.array(1, 0, false));
        CHECK.throwsIt(Check.STATE, "text", () -> x.text(1, 0, false));
        CHECK.throwsIt(Check.STATE, "closure", () -> x.closure(1, 2, 3, 0));
        CHECK.throwsIt(Check.BOUNDS, "closure", () -> x.closure(1, 2, 3, 63));
        CHECK.throwsIt(Check.ARGUMENT, "array", () -> x.array(1, -1, false));
        CHECK.due("made", x.made(), made);
        CHECK.due("numbers", x.get(0, 3), 9);
        CHECK.due("text", x.get(1, 5), 8);
        CHECK.due("the same", x.told(2, 3), 1);
        CHECK.due("collect", x.collect(), 100000);
    }
}
