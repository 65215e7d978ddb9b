/** Promises 13 to 16: collect, every, made and audit. */
public final class CollectionTest {
    private static final Check CHECK = new Check();

    public static void main(String[] args) {
        collectAnswersReached();
        sharedThingsCountOnce();
        ringsAndLongChains();
        contentsComeAlong();
        everyAnswersTheLast();
        everyChangesNoAnswer();
        madeCountsAll();
        auditIsZero();
        CHECK.end("CollectionTest");
    }

    private static void collectAnswersReached() {
        MovingHeap x = new MovingHeap();
        x.shape(-1, 1, 1, 12);
        x.object(0, 0, false);
        x.array(1, 3, true);
        x.text(2, 4, false);
        x.closure(3, 1, 1, 2);
        x.object(4, 0, true);
        CHECK.due("all", x.collect(), 12 + 5 + 6 + 10);
        x.hold(2, -1);
        CHECK.due("the text is captured", x.collect(), 12 + 5 + 6 + 10);
        x.link(4, 0, 3);
        x.hold(3, -1);
        CHECK.due("through a free one", x.collect(), 12 + 5 + 6 + 10);
        x.hold(4, -1);
        CHECK.due("closure and text are gone", x.collect(), 12 + 5);
        x.link(1, 2, 0);
        x.hold(0, -1);
        CHECK.due("in an array", x.collect(), 12 + 5);
        x.array(1, 0, false);
        CHECK.due("replaced", x.collect(), 2);
        x.hold(1, 60);
        CHECK.due("nothing", x.collect(), 0);
        CHECK.due("nothing again", x.collect(), 0);
    }

    private static void sharedThingsCountOnce() {
        MovingHeap x = new MovingHeap();
        x.text(0, 98, false);
        x.array(1, 8, true);
        for (int i = 0; i < 8; i++) {
            x.link(1, i, 0);
        }
        x.closure(2, 2, 3, 0);
        for (int r = 10; r < 64; r++) {
            x.hold(r, 0);
        }
        CHECK.due("once each", x.collect(), 100 + 10 + 10);
        x.put(63, 97, 5);
        x.follow(1, 7, 3);
        CHECK.due("still one text", x.get(3, 97), 5);
        x.follow(2, 0, 4);
        CHECK.due("still one text", x.told(4, 3), 0);
        x.follow(2, 1, 4);
        CHECK.due("still one array", x.told(4, 3), 1);
    }

    private static void ringsAndLongChains() {
        MovingHeap x = new MovingHeap();
        x.shape(-1, 2, 0b01, 100);
        for (int i = 0; i < 120; i++) {
            x.object(1, 0, false);
            x.put(1, 1, i);
            x.link(1, 0, 0);
            x.hold(0, 1);
        }
        x.hold(1, -1);
        CHECK.due("a chain", x.collect(), 12000);
        x.hold(1, 0);
        for (int i = 119; i > 0; i--) {
            CHECK.due("in the chain", x.get(1, 1), i);
            x.follow(1, 0, 1);
        }
        x.link(1, 0, 0);
        x.hold(0, -1);
        CHECK.due("a ring", x.collect(), 12000);
        x.follow(1, 0, 0);
        CHECK.due("round the ring", x.get(0, 1), 119);
        x.link(1, 0, 5);
        x.hold(0, -1);
        CHECK.due("the ring is cut", x.collect(), 100);
    }

    private static void contentsComeAlong() {
        MovingHeap x = new MovingHeap();
        x.shape(-1, 16, 0b0101, 1);
        x.array(20, 1000, false);
        x.object(0, 0, false);
        x.array(1, 9, false);
        x.text(2, 9, true);
        x.closure(3, 8, 1, 0);
        x.put(0, 15, Long.MIN_VALUE);
        x.put(0, 1, 1);
        x.link(0, 2, 2);
        x.put(1, 8, -7);
        x.put(2, 8, 65535);
        x.put(3, 7, 3);
        x.hold(20, -1);
        for (int round = 0; round < 4; round++) {
            CHECK.due("collect", x.collect(), 1 + 11 + 10);
            CHECK.due("field", x.get(0, 15), Long.MIN_VALUE);
            // A number that is 1 must not be taken for a reference.
            CHECK.due("field", x.get(0, 1), 1);
            CHECK.due("element", x.get(1, 8), -7);
            CHECK.due("character", x.get(2, 8), 65535);
            CHECK.due("place", x.get(3, 7), 3);
            x.follow(0, 2, 4);
            CHECK.due("reference", x.told(4, 3), 2);
            x.follow(3, 0, 5);
            CHECK.due("reference of the closure", x.told(5, 3), 0);
        }
    }

    private static void everyAnswersTheLast() {
        MovingHeap x = new MovingHeap();
        CHECK.due("at first", x.every(5), 0);
        CHECK.due("then", x.every(Integer.MAX_VALUE), 5);
        CHECK.throwsIt(Check.ARGUMENT, "-1", () -> x.every(-1));
        CHECK.throwsIt(Check.ARGUMENT, "least", () -> x.every(Integer.MIN_VALUE));
        CHECK.due("not changed by those", x.every(0), Integer.MAX_VALUE);
        CHECK.due("0", x.every(1), 0);
        x.array(0, 1, false);
        CHECK.due("not changed by making", x.every(1), 1);
    }

    private static void everyChangesNoAnswer() {
        MovingHeap x = new MovingHeap();
        MovingHeap y = new MovingHeap();
        y.every(1);
        for (int i = 0; i < 60; i++) {
            CHECK.due("array", y.array(i % 7, i, true), x.array(i % 7, i, true));
            if (i > 0) {
                x.link(i % 7, i / 2, (i + 3) % 7);
                y.link(i % 7, i / 2, (i + 3) % 7);
            }
            CHECK.due("made", y.made(), x.made());
            CHECK.due("audit", y.audit(), x.audit());
        }
        CHECK.due("collect", y.collect(), x.collect());
    }

    private static void madeCountsAll() {
        MovingHeap x = new MovingHeap();
        x.shape(-1, 0, 0, 40);
        x.object(0, 0, false);
        CHECK.due("object", x.made(), 40);
        x.object(0, 0, true);
        x.text(0, 50, true);
        CHECK.due("free ones", x.made(), 40);
        x.text(0, 50, false);
        CHECK.due("text", x.made(), 92);
        x.array(0, 6, true);
        CHECK.due("array", x.made(), 100);
        x.closure(0, 2, 0, 0);
        CHECK.due("closure", x.made(), 110);
        x.hold(0, -1);
        x.collect();
        CHECK.due("what is gone still counts", x.made(), 110);
        Check.thrown(() -> x.array(0, 100000, false));
        Check.thrown(() -> x.array(64, 1, false));
        Check.thrown(() -> x.object(0, 1, false));
        CHECK.due("what was not made does not count", x.made(), 110);
        for (int i = 0; i < 30; i++) {
            x.array(0, 99000, false);
            x.hold(0, -1);
        }
        CHECK.due("more than the heap holds", x.made(), 110 + 30 * 99002);
    }

    private static void auditIsZero() {
        MovingHeap x = new MovingHeap();
        x.shape(-1, 3, 0b111, 10);
        for (int i = 0; i < 60; i++) {
            x.object(i, 0, false);
            x.link(i, 0, i / 2);
            x.link(i, 1, 63);
            x.link(i, 2, i);
            CHECK.due("audit", x.audit(), 0);
            if (i % 9 == 8) {
                x.hold(i / 3, -1);
                CHECK.due("audit", x.audit(), 0);
                x.collect();
                CHECK.due("audit", x.audit(), 0);
            }
        }
    }
}
