/** Promises 9 and 10: link and follow. */
public final class ReferencesTest {
    private static final Check CHECK = new Check();
    private static final int[] NO_INDEXES = {-1, 2, Integer.MIN_VALUE, Integer.MAX_VALUE};

    public static void main(String[] args) {
        linksAreFollowed();
        linkToNone();
        linkToItself();
        followToTheRootItComesFrom();
        firstAndLastOfEachKind();
        rootsAre0To63();
        secondRootThatIsNone();
        rootThatHoldsNone();
        indexThatIsNot();
        thingsWithoutAnyReference();
        numbers();
        boundsBeforeArgument();
        refusedLinkChangesNothing();
        refusedFollowChangesNothing();
        CHECK.end("ReferencesTest");
    }

    private static void linksAreFollowed() {
        MovingHeap x = Samples.oneOfEach();
        x.link(0, 1, 3);
        x.link(2, 0, 1);
        x.link(4, 1, 2);
        for (int round = 0; round < 3; round++) {
            x.follow(0, 1, 10);
            x.follow(2, 0, 11);
            x.follow(4, 1, 12);
            CHECK.due("the text", x.told(10, 3), 3);
            CHECK.due("the numbers", x.told(11, 3), 1);
            CHECK.due("the references", x.told(12, 3), 2);
            x.collect();
        }
        x.link(2, 0, 3);
        x.follow(2, 0, 11);
        CHECK.due("another now", x.told(11, 3), 3);
        CHECK.due("audit", x.audit(), 0);
    }

    private static void linkToNone() {
        MovingHeap x = Samples.oneOfEach();
        for (int r : new int[] {0, 2, 4}) {
            x.link(r, 1, 3);
            x.link(r, 1, 5);
            x.hold(10, 3);
            x.follow(r, 1, 10);
            CHECK.due("none again", x.told(10, 0), 0);
        }
        CHECK.due("audit", x.audit(), 0);
    }

    private static void linkToItself() {
        MovingHeap x = Samples.oneOfEach();
        for (int r : new int[] {0, 2, 4}) {
            x.link(r, 1, r);
            x.collect();
            x.follow(r, 1, 10);
            CHECK.due("itself", x.told(10, 3), r);
            x.follow(10, 1, 10);
            CHECK.due("itself again", x.told(10, 3), r);
        }
        CHECK.due("collect", x.collect(), 5 + 4 + 4 + 4 + 10);
    }

    private static void followToTheRootItComesFrom() {
        MovingHeap x = Samples.oneOfEach();
        x.link(0, 1, 2);
        x.link(2, 1, 3);
        x.follow(0, 1, 0);
        CHECK.due("the array", x.told(0, 0), 3);
        CHECK.due("the same array", x.told(2, 3), 0);
        x.follow(0, 1, 0);
        CHECK.due("the text", x.told(3, 3), 0);
        x.follow(2, 0, 2);
        CHECK.due("none", x.told(2, 0), 0);
    }

    private static void firstAndLastOfEachKind() {
        MovingHeap x = Samples.withMostFields();
        x.array(2, 90000, true);
        x.closure(3, 8, 0xff, 20);
        x.text(4, 1, false);
        x.text(5, 2, false);
        int[] counts = {0, 64, 90000, 8};
        for (int r = 1; r <= 3; r++) {
            int root = r;
            int n = counts[r];
            x.link(r, 0, 4);
            x.link(r, n - 1, 5);
            CHECK.throwsIt(Check.BOUNDS, "link behind the last", () -> x.link(root, n, 4));
            CHECK.throwsIt(Check.BOUNDS, "follow behind the last", () -> x.follow(root, n, 4));
            CHECK.throwsIt(Check.BOUNDS, "link before the first", () -> x.link(root, -1, 4));
            CHECK.throwsIt(Check.BOUNDS, "follow before the first", () -> x.follow(root, -1, 4));
            x.collect();
            x.follow(r, 0, 10);
            x.follow(r, n - 1, 11);
            CHECK.due("the first", x.told(10, 3), 4);
            CHECK.due("the last", x.told(11, 3), 5);
        }
    }

    private static void rootsAre0To63() {
        MovingHeap x = Samples.oneOfEach();
        x.hold(63, 2);
        x.link(63, 0, 0);
        x.link(0, 1, 63);
        x.follow(0, 1, 62);
        CHECK.due("root 0 to what root 63 holds", x.told(62, 3), 2);
        x.hold(2, -1);
        x.follow(62, 0, 63);
        CHECK.due("into root 63", x.told(63, 3), 0);
        x.follow(0, 1, 0);
        CHECK.due("into root 0", x.told(62, 3), 0);
        for (int r : Samples.NO_ROOTS) {
            CHECK.throwsIt(Check.BOUNDS, "link in " + r, () -> x.link(r, 0, 0));
            CHECK.throwsIt(Check.BOUNDS, "follow in " + r, () -> x.follow(r, 0, 0));
        }
    }

    private static void secondRootThatIsNone() {
        MovingHeap x = Samples.oneOfEach();
        // -1 too: it stands for none in hold alone.
        for (int s : Samples.NO_ROOTS) {
            CHECK.throwsIt(Check.BOUNDS, "link to " + s, () -> x.link(0, 1, s));
            CHECK.throwsIt(Check.BOUNDS, "follow to " + s, () -> x.follow(0, 1, s));
        }
    }

    private static void rootThatHoldsNone() {
        MovingHeap x = Samples.oneOfEach();
        for (int i : new int[] {0, -1, 1, Integer.MIN_VALUE, Integer.MAX_VALUE}) {
            CHECK.throwsIt(Check.BOUNDS, "link, none", () -> x.link(5, i, 0));
            CHECK.throwsIt(Check.BOUNDS, "follow, none", () -> x.follow(5, i, 0));
        }
        x.hold(2, -1);
        CHECK.throwsIt(Check.BOUNDS, "link, none now", () -> x.link(2, 0, 0));
        CHECK.throwsIt(Check.BOUNDS, "follow, none now", () -> x.follow(2, 0, 0));
    }

    private static void indexThatIsNot() {
        MovingHeap x = Samples.oneOfEach();
        for (int r = 0; r < 5; r++) {
            int root = r;
            for (int i : NO_INDEXES) {
                CHECK.throwsIt(Check.BOUNDS, "link(" + r + ", " + i + ")", () -> x.link(root, i, 0));
                CHECK.throwsIt(Check.BOUNDS, "follow(" + r + ", " + i + ")", () -> x.follow(root, i, 0));
            }
        }
    }

    private static void thingsWithoutAnyReference() {
        MovingHeap x = Samples.emptyOfEach();
        for (int r = 0; r < 5; r++) {
            int root = r;
            for (int i : new int[] {0, -1}) {
                CHECK.throwsIt(Check.BOUNDS, "link(" + r + ", " + i + ")", () -> x.link(root, i, 0));
                CHECK.throwsIt(Check.BOUNDS, "follow(" + r + ", " + i + ")", () -> x.follow(root, i, 0));
            }
        }
    }

    private static void numbers() {
        MovingHeap x = Samples.oneOfEach();
        for (int r : new int[] {0, 1, 3, 4}) {
            CHECK.throwsIt(Check.ARGUMENT, "link a number", () -> x.link(r, 0, 0));
            CHECK.throwsIt(Check.ARGUMENT, "follow a number", () -> x.follow(r, 0, 0));
        }
        MovingHeap most = Samples.withMostFields();
        for (int i : new int[] {0, 31, 32, 63}) {
            CHECK.throwsIt(Check.ARGUMENT, "link field " + i, () -> most.link(0, i, 0));
            CHECK.throwsIt(Check.ARGUMENT, "follow field " + i, () -> most.follow(0, i, 0));
        }
    }

    private static void boundsBeforeArgument() {
        MovingHeap x = Samples.oneOfEach();
        for (int s : Samples.NO_ROOTS) {
            CHECK.throwsIt(Check.BOUNDS, "link a number to " + s, () -> x.link(0, 0, s));
            CHECK.throwsIt(Check.BOUNDS, "follow a number to " + s, () -> x.follow(0, 0, s));
        }
        for (int i : NO_INDEXES) {
            CHECK.throwsIt(Check.BOUNDS, "link number " + i, () -> x.link(1, i, 0));
            CHECK.throwsIt(Check.BOUNDS, "follow number " + i, () -> x.follow(1, i, 0));
        }
    }

    private static void refusedLinkChangesNothing() {
        MovingHeap x = Samples.oneOfEach();
        x.put(0, 0, 4);
        x.put(1, 0, 5);
        x.put(3, 0, 6);
        x.put(4, 0, 7);
        x.link(2, 1, 3);
        for (int r = 0; r < 5; r++) {
            int root = r;
            Check.thrown(Check.asCall(() -> x.link(root, 2, 1)));
            Check.thrown(Check.asCall(() -> x.link(root, -1, 1)));
            Check.thrown(Check.asCall(() -> x.link(root, 1, 64)));
            Check.thrown(Check.asCall(() -> x.link(root, 1, -1)));
            if (r != 2) {
                Check.thrown(Check.asCall(() -> x.link(root, 0, 1)));
            }
        }
        CHECK.due("object", x.get(0, 0), 4);
        CHECK.due("numbers", x.get(1, 0), 5);
        CHECK.due("text", x.get(3, 0), 6);
        CHECK.due("closure", x.get(4, 0), 7);
        x.follow(2, 1, 10);
        CHECK.due("references", x.told(10, 3), 3);
        x.follow(4, 1, 10);
        CHECK.due("what the closure captured", x.told(10, 3), 1);
        x.follow(0, 1, 10);
        CHECK.due("none", x.told(10, 0), 0);
    }

    private static void refusedFollowChangesNothing() {
        MovingHeap x = Samples.oneOfEach();
        x.hold(10, 3);
        for (int r : new int[] {0, 1, 3, 4}) {
            Check.thrown(Check.asCall(() -> x.follow(r, 0, 10)));
        }
        for (int r = 0; r < 6; r++) {
            int root = r;
            Check.thrown(Check.asCall(() -> x.follow(root, 2, 10)));
            Check.thrown(Check.asCall(() -> x.follow(root, -1, 10)));
        }
        Check.thrown(Check.asCall(() -> x.follow(64, 1, 10)));
        CHECK.due("root 10", x.told(10, 3), 3);
        for (int r = 0; r < 6; r++) {
            CHECK.due("root " + r, x.told(r, 3), r);
        }
    }
}
