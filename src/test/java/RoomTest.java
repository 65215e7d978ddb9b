/** The document's terms CELLS, REACHED and PLACES: when a thing may be made, and when not. */
public final class RoomTest {
    private static final Check CHECK = new Check();

    /** Makes a thing in root 60. */
    private interface Making {
        int make(MovingHeap x);
    }

    public static void main(String[] args) {
        cellsOfEachKind();
        freeOnesTakeNoCells();
        at100000CellsWhatTakesNoneIsMade();
        cellsInOneThing();
        placesOfEachKind();
        freeOnesHavePlaces();
        at180000PlacesNothingIsMade();
        eachLimitByItself();
        whatWasInTheRootStillCountsItsCells();
        whatWasInTheRootStillCountsItsPlaces();
        whatIsNotReachedCountsNoCells();
        whatIsNotReachedCountsNoPlaces();
        ringThatNoRootReaches();
        reachedByTheLastRoot();
        reachedByTheLastReferenceOfEachKind();
        reachedAtTheEndOfALongChain();
        reachedTwiceCountsOnce();
        numbersReachNothing();
        refusalInAFullHeapChangesNothing();
        fullHeapMoves();
        CHECK.end("RoomTest");
    }

    private static void cellsOfEachKind() {
        takesCells("object of price 1", 1, x -> x.object(60, 0, false));
        takesCells("object of price 1000", 1000, x -> x.object(60, 2, false));
        for (int n : new int[] {0, 1, 5, 70000}) {
            takesCells("numbers", 2 + n, x -> x.array(60, n, false));
            takesCells("references", 2 + n, x -> x.array(60, n, true));
            takesCells("text", 2 + n, x -> x.text(60, n, false));
        }
        for (int n = 0; n <= 8; n++) {
            int places = n;
            takesCells("closure", 10, x -> x.closure(60, places, -1, 0));
        }
    }

    private static void takesCells(String what, int cells, Making making) {
        MovingHeap enough = Samples.withCellsLeft(cells, 0);
        CHECK.due(what + " in its " + cells, making.make(enough), cells);
        CHECK.due(what + " and all else", enough.collect(), 100000);
        MovingHeap less = Samples.withCellsLeft(cells - 1, 0);
        CHECK.throwsIt(Check.STATE, what + " in one cell less", () -> making.make(less));
        CHECK.due("all but " + what, less.collect(), 100001 - cells);
    }

    private static void freeOnesTakeNoCells() {
        MovingHeap x = Samples.withCellsLeft(1000, 0);
        for (int r = 10; r < 30; r++) {
            CHECK.due("a free object of price 1000", x.object(r, 2, true), 0);
            CHECK.due("a free text", x.text(30 + r, 9999, true), 0);
        }
        CHECK.due("collect", x.collect(), 99000);
        CHECK.due("one that takes its 1000", x.object(1, 2, false), 1000);
    }

    private static void at100000CellsWhatTakesNoneIsMade() {
        MovingHeap x = Samples.withCellsLeft(0, 0);
        CHECK.due("a free object", x.object(1, 2, true), 0);
        CHECK.due("an object of price 0", x.object(2, 1, false), 0);
        CHECK.due("a free text", x.text(3, 100000, true), 0);
        CHECK.throwsIt(Check.STATE, "1 more", () -> x.object(4, 0, false));
        CHECK.throwsIt(Check.STATE, "2 more", () -> x.array(4, 0, false));
        CHECK.throwsIt(Check.STATE, "2 more", () -> x.text(4, 0, false));
        CHECK.throwsIt(Check.STATE, "10 more", () -> x.closure(4, 0, 0, 0));
        CHECK.due("collect", x.collect(), 100000);
    }

    private static void cellsInOneThing() {
        for (boolean refs : new boolean[] {false, true}) {
            MovingHeap x = new MovingHeap();
            CHECK.throwsIt(Check.STATE, "100001 in an array", () -> x.array(0, 99999, refs));
            CHECK.due("100000 in an array", x.array(0, 99998, refs), 100000);
        }
        MovingHeap y = new MovingHeap();
        CHECK.throwsIt(Check.STATE, "100001 in a text", () -> y.text(0, 99999, false));
        CHECK.due("100000 in a text", y.text(0, 99998, false), 100000);
    }

    private static void placesOfEachKind() {
        for (int n = 0; n <= 16; n++) {
            int fields = n;
            hasPlaces("object", 1 + n, x -> x.object(60, fields, false));
            hasPlaces("numbers", 2 + n, x -> x.array(60, fields, false));
            hasPlaces("references", 2 + n, x -> x.array(60, fields, true));
            // 0, 1 to 4, 5 to 8 characters and so on: rounded up.
            hasPlaces("text", 2 + (n + 3) / 4, x -> x.text(60, fields, false));
        }
        for (int n = 0; n <= 8; n++) {
            int places = n;
            hasPlaces("closure", 2 + n, x -> x.closure(60, places, -1, 0));
        }
    }

    private static void hasPlaces(String what, int places, Making making) {
        MovingHeap enough = Samples.withPlacesLeft(places, 7);
        making.make(enough);
        CHECK.due(what + " in its " + places, enough.told(60, 0) == 0 ? 1 : 0, 0);
        CHECK.throwsIt(Check.STATE, "nothing beside " + what, () -> enough.object(61, 0, true));
        MovingHeap less = Samples.withPlacesLeft(places - 1, 7);
        CHECK.throwsIt(Check.STATE, what + " in one place less", () -> making.make(less));
        CHECK.due("no " + what, less.told(60, 0), 0);
    }

    private static void freeOnesHavePlaces() {
        for (int n = 0; n <= 16; n++) {
            int fields = n;
            hasPlaces("free object", 1 + n, x -> x.object(60, fields, true));
            hasPlaces("free text", 2 + (n + 3) / 4, x -> x.text(60, fields, true));
        }
    }

    private static void at180000PlacesNothingIsMade() {
        MovingHeap x = Samples.withPlacesLeft(0, 7);
        CHECK.throwsIt(Check.STATE, "1 more", () -> x.object(8, 0, true));
        CHECK.throwsIt(Check.STATE, "2 more", () -> x.array(8, 0, false));
        CHECK.throwsIt(Check.STATE, "2 more", () -> x.text(8, 0, true));
        CHECK.throwsIt(Check.STATE, "2 more", () -> x.closure(8, 0, 0, 0));
        CHECK.due("all that is reached is free", x.collect(), 0);
        x.hold(6, -1);
        CHECK.due("25000 again", x.text(6, 99992, true), 0);
        CHECK.throwsIt(Check.STATE, "1 more", () -> x.object(8, 0, true));
    }

    private static void eachLimitByItself() {
        MovingHeap x = Samples.withPlacesLeft(99, 7);
        CHECK.throwsIt(Check.STATE, "few cells, too many places", () -> x.array(8, 98, false));
        CHECK.due("few cells, all places", x.array(8, 97, false), 99);
        MovingHeap y = Samples.withCellsLeft(99, 0);
        CHECK.throwsIt(Check.STATE, "few places, too many cells", () -> y.text(8, 98, false));
        CHECK.due("few places, all cells", y.text(8, 97, false), 99);
    }

    private static void whatWasInTheRootStillCountsItsCells() {
        Making[] makings = {x -> x.object(60, 0, false), x -> x.array(60, 0, true),
            x -> x.text(60, 0, false), x -> x.closure(60, 0, 0, 0)};
        int[] cells = {1, 2, 2, 10};
        for (int k = 0; k < makings.length; k++) {
            Making making = makings[k];
            MovingHeap less = Samples.withCellsLeft(cells[k] - 1, 60);
            CHECK.throwsIt(Check.STATE, "what was there counts", () -> making.make(less));
            CHECK.due("and stays", less.told(60, 1), 100000 - cells[k] + 1 - 2);
            MovingHeap enough = Samples.withCellsLeft(cells[k], 60);
            CHECK.due("just enough", making.make(enough), cells[k]);
            CHECK.due("now it counts no more", enough.collect(), cells[k]);
        }
    }

    private static void whatWasInTheRootStillCountsItsPlaces() {
        Making[] makings = {x -> x.object(60, 0, true), x -> x.array(60, 0, true),
            x -> x.text(60, 0, true), x -> x.closure(60, 0, 0, 0)};
        int[] places = {1, 2, 2, 2};
        for (int k = 0; k < makings.length; k++) {
            Making making = makings[k];
            MovingHeap less = Samples.withPlacesLeft(places[k] - 1, 60);
            CHECK.throwsIt(Check.STATE, "what was there counts", () -> making.make(less));
            CHECK.due("and stays", less.told(60, 0), 4);
            MovingHeap enough = Samples.withPlacesLeft(places[k], 60);
            CHECK.due("just enough", making.make(enough), enough.told(60, 2));
            CHECK.due("now it counts no more", enough.text(61, 4900 * 4, true), 0);
        }
    }

    private static void whatIsNotReachedCountsNoCells() {
        MovingHeap x = new MovingHeap();
        for (int i = 0; i < 100; i++) {
            CHECK.due("array", x.array(i % 64, 99998, i % 2 == 0), 100000);
            x.hold(i % 64, -1);
        }
        CHECK.due("collect", x.collect(), 0);
        CHECK.due("made", x.made(), 10000000);
    }

    private static void whatIsNotReachedCountsNoPlaces() {
        MovingHeap x = new MovingHeap();
        for (int i = 0; i < 100; i++) {
            CHECK.due("text", x.text(0, 100000, true), 0);
        }
        x.hold(0, -1);
        for (int r = 0; r < 7; r++) {
            CHECK.due("text", x.text(r, 99992, true), 0);
        }
        CHECK.due("180000 places", x.text(7, 4998 * 4, true), 0);
    }

    private static void ringThatNoRootReaches() {
        MovingHeap x = new MovingHeap();
        x.array(0, 49998, true);
        x.array(1, 49998, true);
        x.link(0, 0, 1);
        x.link(1, 0, 0);
        x.link(1, 1, 1);
        CHECK.throwsIt(Check.STATE, "full", () -> x.array(2, 0, false));
        x.hold(1, -1);
        CHECK.throwsIt(Check.STATE, "still reached", () -> x.array(2, 0, false));
        x.hold(0, -1);
        CHECK.due("the ring is gone", x.array(2, 99998, false), 100000);
    }

    private static void reachedByTheLastRoot() {
        for (int r : new int[] {0, 63}) {
            MovingHeap x = Samples.withCellsLeft(0, r);
            CHECK.due("collect", x.collect(), 100000);
            CHECK.throwsIt(Check.STATE, "root " + r + " reaches", () -> x.array(30, 0, false));
            CHECK.due("it is there", x.told(r, 1), 99998);
            x.hold(r, -1);
            CHECK.due("collect", x.collect(), 0);
        }
    }

    private static void reachedByTheLastReferenceOfEachKind() {
        MovingHeap x = Samples.withMostFields();
        x.hold(0, -1);
        x.array(2, 5000, true);
        x.closure(3, 8, 0xff, 10);
        int[] last = {0, 63, 4999, 7};
        int[] first = {0, 0, 0, 0};
        for (int[] index : new int[][] {last, first}) {
            for (int r = 1; r <= 3; r++) {
                x.text(9, 98 + r, false);
                x.put(9, 97, 7);
                x.link(r, index[r], 9);
                x.hold(9, -1);
                CHECK.due("collect", x.collect(), 1 + 5002 + 10 + 100 + r);
                x.follow(r, index[r], 9);
                CHECK.due("it came along", x.get(9, 97), 7);
                x.link(r, index[r], 50);
                x.hold(9, -1);
                CHECK.due("collect", x.collect(), 1 + 5002 + 10);
            }
        }
    }

    private static void reachedAtTheEndOfALongChain() {
        MovingHeap x = new MovingHeap();
        x.text(0, 88, false);
        x.put(0, 87, 65535);
        for (int i = 0; i < 250; i++) {
            x.closure(0, 1, 1, 0);
        }
        CHECK.due("collect", x.collect(), 90 + 2500);
        CHECK.due("audit", x.audit(), 0);
        for (int i = 0; i < 250; i++) {
            x.follow(0, 0, 0);
        }
        CHECK.due("the end", x.get(0, 87), 65535);
        CHECK.due("collect", x.collect(), 90);
    }

    private static void reachedTwiceCountsOnce() {
        MovingHeap x = Samples.withCellsLeft(12, 0);
        for (int r = 1; r < 64; r++) {
            x.hold(r, 0);
        }
        CHECK.due("closure", x.closure(1, 8, 0xff, 2), 10);
        CHECK.due("array", x.array(2, 0, true), 2);
        CHECK.due("collect", x.collect(), 100000);
    }

    private static void numbersReachNothing() {
        MovingHeap x = Samples.oneOfEach();
        x.array(9, 99900, false);
        x.array(10, 10, false);
        // Numbers that are the addresses of things.
        for (int i = 0; i < 10; i++) {
            x.put(10, i, 10 + i);
        }
        x.put(0, 0, 15);
        x.put(4, 0, 15);
        x.hold(9, -1);
        CHECK.due("collect", x.collect(), 5 + 4 + 4 + 4 + 10 + 12);
        CHECK.due("a field", x.get(0, 0), 15);
        CHECK.due("an element", x.get(10, 5), 15);
        CHECK.due("a place", x.get(4, 0), 15);
    }

    private static void refusalInAFullHeapChangesNothing() {
        MovingHeap x = Samples.full(false);
        x.put(0, 99997, Long.MIN_VALUE);
        x.put(4, 4998 * 4 - 1, 3);
        for (int r = 0; r < 5; r++) {
            int root = r;
            CHECK.throwsIt(Check.STATE, "array", () -> x.array(root, 0, false));
            CHECK.throwsIt(Check.STATE, "text", () -> x.text(root, 0, true));
        }
        CHECK.due("the last element", x.get(0, 99997), Long.MIN_VALUE);
        CHECK.due("the last character", x.get(4, 4998 * 4 - 1), 3);
        CHECK.due("collect", x.collect(), 100000);
    }

    private static void fullHeapMoves() {
        MovingHeap x = Samples.full(true);
        x.put(3, 99991, 3);
        x.link(0, 99997, 3);
        x.link(0, 0, 0);
        x.hold(3, -1);
        for (int round = 0; round < 3; round++) {
            CHECK.due("collect", x.collect(), 100000);
            CHECK.due("audit", x.audit(), 0);
            x.follow(0, 99997, 5);
            CHECK.due("the last element's last character", x.get(5, 99991), 3);
            x.follow(0, 0, 6);
            CHECK.due("the first element is itself", x.told(6, 3), 0);
            x.hold(5, -1);
        }
        CHECK.throwsIt(Check.STATE, "one more", () -> x.text(7, 0, true));
    }
}
