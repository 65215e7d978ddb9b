/** Promises 13 to 16: collect, every, made and audit. */
public final class CollectionTest {
    private static final Check CHECK = new Check();

    public static void main(String[] args) {
        collectAnswersReached();
        collectOfNothing();
        collectOfAllCells();
        collectOfFreeThings();
        sharedThingsCountOnce();
        ringsAndLongChains();
        contentsComeAlong();
        everyAnswersTheLast();
        everyIsNotBelow0();
        everyChangesNoAnswer();
        everyMayFindNoRoom();
        madeCountsAll();
        madeCountsNoCellsOfFreeThings();
        madeCountsWhatIsGone();
        madeCountsNothingRefused();
        auditIsZero();
        auditOfNothing();
        auditOfAFullHeap();
        auditTakesNoNumberForAReference();
        the512thCall();
        CHECK.end("CollectionTest");
    }

    private static void collectAnswersReached() {
        MovingHeap x = new MovingHeap();
        x.shape(-1, 1, 1, 12);
        x.object(0, 0, false);
        x.array(1, 3, true);
        x.text(2, 4, false);
        x.closure(3, 1, 1, 2);
        x.object(4, 0, true);
        CHECK.due("all", x.collect(), 12 + 5 + 6 + 10);
        x.hold(2, -1);
        CHECK.due("the text is captured", x.collect(), 12 + 5 + 6 + 10);
        x.link(4, 0, 3);
        x.hold(3, -1);
        CHECK.due("through a free one", x.collect(), 12 + 5 + 6 + 10);
        x.hold(4, -1);
        CHECK.due("closure and text are gone", x.collect(), 12 + 5);
        x.link(1, 2, 0);
        x.hold(0, -1);
        CHECK.due("in an array", x.collect(), 12 + 5);
        x.array(1, 0, false);
        CHECK.due("replaced", x.collect(), 2);
    }

    private static void collectOfNothing() {
        MovingHeap x = new MovingHeap();
        CHECK.due("at first", x.collect(), 0);
        CHECK.due("again", x.collect(), 0);
        x.array(0, 99998, true);
        x.link(0, 0, 0);
        x.hold(0, -1);
        CHECK.due("all is gone", x.collect(), 0);
        CHECK.due("again", x.collect(), 0);
    }

    private static void collectOfAllCells() {
        MovingHeap x = Samples.withCellsLeft(10, 0);
        x.closure(1, 8, 0xff, 0);
        for (int round = 0; round < 3; round++) {
            CHECK.due("all cells", x.collect(), 100000);
        }
        CHECK.throwsIt(Check.STATE, "full", () -> x.array(2, 0, false));
        CHECK.due("all cells after a refused call", x.collect(), 100000);
    }

    private static void collectOfFreeThings() {
        MovingHeap x = Samples.withPlacesLeft(1, 7);
        x.object(8, 0, true);
        CHECK.due("no cells", x.collect(), 0);
        CHECK.due("but they are there", x.told(8, 0) + x.told(7, 0), 5);
    }

    private static void sharedThingsCountOnce() {
        MovingHeap x = new MovingHeap();
        x.text(0, 98, false);
        x.array(1, 8, true);
        for (int i = 0; i < 8; i++) {
            x.link(1, i, 0);
        }
        x.closure(2, 2, 3, 0);
        for (int r = 10; r < 64; r++) {
            x.hold(r, 0);
        }
        CHECK.due("once each", x.collect(), 100 + 10 + 10);
        x.put(63, 97, 5);
        x.follow(1, 7, 3);
        CHECK.due("still one text", x.get(3, 97), 5);
        x.follow(2, 0, 4);
        CHECK.due("still one text", x.told(4, 3), 0);
        x.follow(2, 1, 4);
        CHECK.due("still one array", x.told(4, 3), 1);
    }

    private static void ringsAndLongChains() {
        MovingHeap x = new MovingHeap();
        x.shape(-1, 2, 0b01, 100);
        for (int i = 0; i < 80; i++) {
            x.object(1, 0, false);
            x.put(1, 1, i);
            x.link(1, 0, 0);
            x.hold(0, 1);
        }
        x.hold(1, -1);
        CHECK.due("a chain", x.collect(), 8000);
        x.hold(1, 0);
        for (int i = 79; i > 0; i--) {
            CHECK.due("in the chain", x.get(1, 1), i);
            x.follow(1, 0, 1);
        }
        x.link(1, 0, 0);
        x.hold(0, -1);
        CHECK.due("a ring", x.collect(), 8000);
        x.follow(1, 0, 0);
        CHECK.due("round the ring", x.get(0, 1), 79);
        x.link(1, 0, 5);
        x.hold(0, -1);
        CHECK.due("the ring is cut", x.collect(), 100);
    }

    private static void contentsComeAlong() {
        MovingHeap x = new MovingHeap();
        x.shape(-1, 16, 0b0101, 1);
        x.array(20, 1000, false);
        x.object(0, 0, false);
        x.array(1, 9, false);
        x.text(2, 9, true);
        x.closure(3, 8, 1, 0);
        x.put(0, 15, Long.MIN_VALUE);
        x.put(0, 1, 1);
        x.link(0, 2, 2);
        x.put(1, 8, -7);
        x.put(2, 8, 65535);
        x.put(3, 7, 3);
        x.hold(20, -1);
        for (int round = 0; round < 4; round++) {
            CHECK.due("collect", x.collect(), 1 + 11 + 10);
            CHECK.due("field", x.get(0, 15), Long.MIN_VALUE);
            // A number that is 1 must not be taken for a reference.
            CHECK.due("field", x.get(0, 1), 1);
            CHECK.due("element", x.get(1, 8), -7);
            CHECK.due("character", x.get(2, 8), 65535);
            CHECK.due("place", x.get(3, 7), 3);
            x.follow(0, 2, 4);
            CHECK.due("reference", x.told(4, 3), 2);
            x.follow(3, 0, 5);
            CHECK.due("reference of the closure", x.told(5, 3), 0);
        }
    }

    private static void everyAnswersTheLast() {
        MovingHeap x = new MovingHeap();
        CHECK.due("0 at first", x.every(5), 0);
        CHECK.due("5", x.every(Integer.MAX_VALUE), 5);
        CHECK.due("most", x.every(0), Integer.MAX_VALUE);
        CHECK.due("0", x.every(1), 0);
        x.array(0, 1, false);
        CHECK.due("not changed by making", x.every(1), 1);
        x.collect();
        CHECK.due("not changed by collecting", x.every(2), 1);
    }

    private static void everyIsNotBelow0() {
        MovingHeap x = new MovingHeap();
        CHECK.throwsIt(Check.ARGUMENT, "-1", () -> x.every(-1));
        CHECK.throwsIt(Check.ARGUMENT, "least", () -> x.every(Integer.MIN_VALUE));
        CHECK.due("refused, so 0 still", x.every(3), 0);
        CHECK.throwsIt(Check.ARGUMENT, "-1", () -> x.every(-1));
        CHECK.due("refused, so 3 still", x.every(0), 3);
        CHECK.due("0 is not below 0", x.every(0), 0);
    }

    private static void everyChangesNoAnswer() {
        for (int n : new int[] {1, 2, 3, Integer.MAX_VALUE}) {
            MovingHeap x = new MovingHeap();
            MovingHeap y = new MovingHeap();
            y.every(n);
            for (int i = 0; i < 60; i++) {
                CHECK.due("array", y.array(i % 7, i, true), x.array(i % 7, i, true));
                if (i > 0) {
                    x.link(i % 7, i / 2, (i + 3) % 7);
                    y.link(i % 7, i / 2, (i + 3) % 7);
                }
                CHECK.due("made", y.made(), x.made());
                CHECK.due("audit", y.audit(), x.audit());
            }
            CHECK.due("collect", y.collect(), x.collect());
        }
    }

    private static void everyMayFindNoRoom() {
        MovingHeap x = Samples.withCellsLeft(1, 0);
        x.every(1);
        CHECK.throwsIt(Check.STATE, "no room", () -> x.array(0, 0, false));
        CHECK.due("still there", x.told(0, 1), 99997);
        CHECK.due("just room", x.object(1, 0, false), 1);
        CHECK.due("collect", x.collect(), 100000);
    }

    private static void madeCountsAll() {
        MovingHeap x = new MovingHeap();
        x.shape(-1, 0, 0, 40);
        CHECK.due("none", x.made(), 0);
        x.object(0, 0, false);
        CHECK.due("object", x.made(), 40);
        x.text(0, 50, false);
        CHECK.due("text", x.made(), 92);
        x.array(0, 6, true);
        CHECK.due("array", x.made(), 100);
        x.closure(0, 2, 0, 0);
        CHECK.due("closure", x.made(), 110);
        x.hold(1, 0);
        CHECK.due("holding makes nothing", x.made(), 110);
    }

    private static void madeCountsNoCellsOfFreeThings() {
        MovingHeap x = new MovingHeap();
        x.shape(-1, 0, 0, 40);
        x.shape(-1, 0, 0, 0);
        x.object(0, 0, true);
        x.text(1, 50, true);
        x.object(2, 1, false);
        CHECK.due("none", x.made(), 0);
    }

    private static void madeCountsWhatIsGone() {
        MovingHeap x = new MovingHeap();
        for (int i = 0; i < 30; i++) {
            x.array(0, 99000, false);
            x.hold(0, -1);
        }
        CHECK.due("more than the heap holds", x.made(), 30 * 99002);
        x.collect();
        CHECK.due("still", x.made(), 30 * 99002);
    }

    private static void madeCountsNothingRefused() {
        MovingHeap x = Samples.withCellsLeft(0, 0);
        Check.thrown(() -> x.object(1, 0, false));
        Check.thrown(() -> x.array(1, 100000, false));
        Check.thrown(() -> x.array(64, 1, false));
        Check.thrown(() -> x.text(1, -1, false));
        Check.thrown(() -> x.closure(1, 0, 0, 0));
        Check.thrown(() -> x.closure(1, 1, 0, 64));
        CHECK.due("made", x.made(), 100000);
    }

    private static void auditIsZero() {
        MovingHeap x = new MovingHeap();
        x.shape(-1, 3, 0b111, 10);
        for (int i = 0; i < 60; i++) {
            x.object(i, 0, false);
            x.link(i, 0, i / 2);
            x.link(i, 1, 63);
            x.link(i, 2, i);
            CHECK.due("audit", x.audit(), 0);
            if (i % 9 == 8) {
                x.hold(i / 3, -1);
                CHECK.due("audit", x.audit(), 0);
                x.collect();
                CHECK.due("audit", x.audit(), 0);
            }
        }
    }

    private static void auditOfNothing() {
        MovingHeap x = new MovingHeap();
        CHECK.due("at first", x.audit(), 0);
        x.array(0, 5, true);
        x.hold(0, -1);
        CHECK.due("nothing is reached", x.audit(), 0);
        x.collect();
        CHECK.due("all is gone", x.audit(), 0);
    }

    private static void auditOfAFullHeap() {
        MovingHeap x = Samples.full(true);
        x.link(0, 99997, 4);
        x.link(0, 0, 0);
        for (int round = 0; round < 3; round++) {
            CHECK.due("180000 places", x.audit(), 0);
            Check.thrown(() -> x.text(5, 0, true));
            CHECK.due("after a refused call", x.audit(), 0);
        }
        CHECK.due("an audit changes nothing", x.collect(), 100000);
        x.follow(0, 99997, 9);
        CHECK.due("an audit changes nothing", x.told(9, 3), 4);
    }

    private static void auditTakesNoNumberForAReference() {
        MovingHeap x = Samples.oneOfEach();
        for (long v : new long[] {-1, 2, 99999, Long.MIN_VALUE, Long.MAX_VALUE}) {
            for (int r : new int[] {0, 1, 3, 4}) {
                x.put(r, 0, v);
            }
            CHECK.due("audit", x.audit(), 0);
            x.collect();
            CHECK.due("audit", x.audit(), 0);
        }
    }

    /** What calls behind it answer is free, but not what this one does. */
    private static void the512thCall() {
        CHECK.due("collect", after511Calls().collect(), 12 + 510 * 10);
        CHECK.due("made", after511Calls().made(), 12 + 510 * 10);
        CHECK.due("audit", after511Calls().audit(), 0);
        CHECK.due("closure", after511Calls().closure(0, 1, 1, 0), 10);
    }

    /** A chain of 511 things. */
    private static MovingHeap after511Calls() {
        MovingHeap x = new MovingHeap();
        x.text(0, 10, false);
        for (int call = 2; call < 512; call++) {
            CHECK.due("call " + call, x.closure(0, 1, 1, 0), 10);
        }
        return x;
    }
}
