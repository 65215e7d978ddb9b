/** Promises 11 and 12: hold and told. */
public final class RootsTest {
    private static final Check CHECK = new Check();

    public static void main(String[] args) {
        holdsTheSame();
        holdsNoneForMinus1();
        holdsWhatHoldsNone();
        holdsItself();
        rootsOfHoldAre0To63();
        refusedHoldChangesNothing();
        toldOfEachKind();
        toldOfNone();
        toldOfEmptyThings();
        toldOfFreeThings();
        toldOfTheFirstAndTheLastClass();
        toldTheLeastRootThatHoldsTheSame();
        toldTheLeastRootThatHoldsNone();
        alikeIsNotTheSame();
        rootsOfToldAre0To63();
        whatIs0To3();
        rootBeforeWhat();
        CHECK.end("RootsTest");
    }

    private static void holdsTheSame() {
        MovingHeap x = Samples.oneOfEach();
        x.hold(10, 3);
        CHECK.due("the same", x.told(10, 3), 3);
        x.hold(3, 1);
        CHECK.due("another", x.told(3, 3), 1);
        CHECK.due("still what it was", x.told(10, 0), 4);
        CHECK.due("the one it came from, too", x.told(1, 0), 2);
    }

    private static void holdsNoneForMinus1() {
        MovingHeap x = Samples.oneOfEach();
        x.hold(10, 3);
        x.hold(3, -1);
        CHECK.due("none", x.told(3, 0), 0);
        CHECK.due("the other root still holds it", x.told(10, 0), 4);
        x.hold(5, -1);
        CHECK.due("none as before", x.told(5, 0), 0);
        CHECK.due("collect", x.collect(), 5 + 4 + 4 + 4 + 10);
        x.hold(10, -1);
        CHECK.due("collect", x.collect(), 5 + 4 + 4 + 10);
    }

    private static void holdsWhatHoldsNone() {
        MovingHeap x = Samples.oneOfEach();
        x.hold(2, 5);
        CHECK.due("none", x.told(2, 0), 0);
        CHECK.due("the same none", x.told(5, 3), 2);
    }

    private static void holdsItself() {
        MovingHeap x = Samples.oneOfEach();
        x.hold(3, 3);
        x.hold(5, 5);
        CHECK.due("the text", x.told(3, 0), 4);
        CHECK.due("none", x.told(5, 0), 0);
    }

    private static void rootsOfHoldAre0To63() {
        MovingHeap x = Samples.oneOfEach();
        x.hold(63, 0);
        CHECK.due("63 holds what 0 does", x.told(63, 3), 0);
        x.array(63, 9, false);
        x.hold(0, 63);
        CHECK.due("0 holds what 63 does", x.told(63, 3), 0);
        for (int r : Samples.NO_ROOTS) {
            CHECK.throwsIt(Check.BOUNDS, "hold(" + r + ", 0)", () -> x.hold(r, 0));
            CHECK.throwsIt(Check.BOUNDS, "hold(" + r + ", -1)", () -> x.hold(r, -1));
            CHECK.throwsIt(Check.BOUNDS, "hold(" + r + ", 64)", () -> x.hold(r, 64));
        }
        for (int s : new int[] {-2, 64, Integer.MIN_VALUE, Integer.MAX_VALUE}) {
            CHECK.throwsIt(Check.BOUNDS, "hold(0, " + s + ")", () -> x.hold(0, s));
        }
    }

    private static void refusedHoldChangesNothing() {
        MovingHeap x = Samples.oneOfEach();
        for (int s : new int[] {-2, 64, Integer.MIN_VALUE, Integer.MAX_VALUE}) {
            for (int r = 0; r < 6; r++) {
                int root = r;
                Check.thrown(Check.asCall(() -> x.hold(root, s)));
                Check.thrown(Check.asCall(() -> x.hold(s, root)));
            }
        }
        for (int r = 0; r < 6; r++) {
            CHECK.due("root " + r, x.told(r, 0), (r + 1) % 6);
        }
    }

    private static void toldOfEachKind() {
        MovingHeap x = Samples.oneOfEach();
        int[][] want = {{1, 0, 5, 0}, {2, 2, 4, 1}, {3, 2, 4, 2}, {4, 2, 4, 3}, {5, 2, 10, 4}};
        for (int round = 0; round < 3; round++) {
            toldAs(x, want);
            x.collect();
        }
    }

    private static void toldAs(MovingHeap x, int[][] want) {
        for (int r = 0; r < want.length; r++) {
            for (int what = 0; what < 4; what++) {
                CHECK.due("told(" + r + ", " + what + ")", x.told(r, what), want[r][what]);
            }
        }
    }

    private static void toldOfNone() {
        MovingHeap x = Samples.oneOfEach();
        for (int round = 0; round < 3; round++) {
            CHECK.due("none", x.told(5, 0), 0);
            CHECK.due("its class, or n", x.told(5, 1), 0);
            CHECK.due("its cells", x.told(5, 2), 0);
            x.collect();
        }
    }

    private static void toldOfEmptyThings() {
        toldAs(Samples.emptyOfEach(),
                new int[][] {{1, 0, 5, 0}, {2, 0, 2, 1}, {3, 0, 2, 2}, {4, 0, 2, 3}, {5, 0, 10, 4}});
    }

    private static void toldOfFreeThings() {
        MovingHeap x = new MovingHeap();
        x.shape(-1, 0, 0, 7);
        x.shape(-1, 3, 0, 9);
        x.object(0, 1, true);
        x.text(1, 6, true);
        x.object(2, 1, false);
        x.text(3, 6, false);
        for (int round = 0; round < 3; round++) {
            toldAs(x, new int[][] {{1, 1, 0, 0}, {4, 6, 0, 1}, {1, 1, 9, 2}, {4, 6, 8, 3}});
            x.collect();
        }
    }

    private static void toldOfTheFirstAndTheLastClass() {
        MovingHeap x = new MovingHeap();
        for (int c = 0; c < 100; c++) {
            x.shape(-1, c % 17, 0, c);
        }
        for (int c : new int[] {0, 99}) {
            for (boolean free : new boolean[] {false, true}) {
                x.object(0, c, free);
                CHECK.due("class", x.told(0, 1), c);
                CHECK.due("cells", x.told(0, 2), free ? 0 : c);
                CHECK.due("kind", x.told(0, 0), 1);
            }
        }
    }

    private static void toldTheLeastRootThatHoldsTheSame() {
        MovingHeap x = Samples.oneOfEach();
        x.hold(40, 1);
        x.hold(50, 1);
        x.hold(1, -1);
        for (int round = 0; round < 3; round++) {
            CHECK.due("least root", x.told(50, 3), 40);
            CHECK.due("itself", x.told(40, 3), 40);
            x.collect();
        }
        for (int r = 0; r < 64; r++) {
            x.hold(r, 0);
        }
        CHECK.due("all the same", x.told(63, 3), 0);
        CHECK.due("all the same", x.told(0, 3), 0);
        x.text(63, 0, true);
        CHECK.due("the last alone", x.told(63, 3), 63);
    }

    private static void toldTheLeastRootThatHoldsNone() {
        MovingHeap x = Samples.oneOfEach();
        CHECK.due("least root with none", x.told(63, 3), 5);
        CHECK.due("itself", x.told(5, 3), 5);
        x.hold(0, -1);
        CHECK.due("least root with none", x.told(63, 3), 0);
        CHECK.due("least root with none", x.told(0, 3), 0);
        for (int r = 0; r < 63; r++) {
            x.hold(r, 1);
        }
        CHECK.due("the last alone", x.told(63, 3), 63);
    }

    private static void alikeIsNotTheSame() {
        MovingHeap x = Samples.oneOfEach();
        x.object(10, 0, false);
        x.array(11, 2, false);
        x.array(12, 2, true);
        x.text(13, 2, false);
        x.closure(14, 2, 0b10, 0);
        for (int r = 10; r < 15; r++) {
            CHECK.due("alike", x.told(r, 3), r);
        }
        x.collect();
        for (int r = 10; r < 15; r++) {
            CHECK.due("alike", x.told(r, 3), r);
        }
    }

    private static void rootsOfToldAre0To63() {
        MovingHeap x = Samples.oneOfEach();
        x.hold(63, 1);
        for (int what = 0; what < 4; what++) {
            int number = what;
            for (int r : Samples.NO_ROOTS) {
                CHECK.throwsIt(Check.BOUNDS, "told(" + r + ", " + what + ")", () -> x.told(r, number));
            }
            CHECK.due("told(63, " + what + ")", x.told(63, what), x.told(1, what));
        }
    }

    private static void whatIs0To3() {
        MovingHeap x = Samples.oneOfEach();
        for (int what : new int[] {-1, 4, Integer.MIN_VALUE, Integer.MAX_VALUE}) {
            for (int r = 0; r < 6; r++) {
                int root = r;
                CHECK.throwsIt(Check.ARGUMENT, "told(" + r + ", " + what + ")", () -> x.told(root, what));
            }
        }
    }

    private static void rootBeforeWhat() {
        MovingHeap x = Samples.oneOfEach();
        for (int r : Samples.NO_ROOTS) {
            CHECK.throwsIt(Check.BOUNDS, "told(" + r + ", 4)", () -> x.told(r, 4));
            CHECK.throwsIt(Check.BOUNDS, "told(" + r + ", -1)", () -> x.told(r, -1));
        }
    }
}
