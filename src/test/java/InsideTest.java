import java.lang.reflect.Field;

/**
 * Promises 14 to 16 where no answer can tell: that collections come when they are due, that made
 * wraps, and that audit would see a lost reference. So this looks inside, by the names of the
 * private fields.
 */
public final class InsideTest {
    private static final Check CHECK = new Check();

    public static void main(String[] args) throws ReflectiveOperationException {
        everyCollectsInTime();
        everyCountsOnlyWhatIsMade();
        refusedEveryChangesNoCount();
        collectionsWhenNeeded();
        noCollectionWithoutNeed();
        madeWraps();
        auditSeesLostReferences();
        auditLooksAtTheFirstAndTheLastOfAll();
        auditPassesOverWhatIsNotReached();
        CHECK.end("InsideTest");
    }

    private static void everyCollectsInTime() throws ReflectiveOperationException {
        MovingHeap x = new MovingHeap();
        CHECK.due("at first", collectionsWhileMaking(x, 10), 0);
        x.every(3);
        for (int turn = 0; turn < 3; turn++) {
            CHECK.due("every 3, the first two", collectionsWhileMaking(x, 2), 0);
            CHECK.due("every 3, the third", collectionsWhileMaking(x, 1), 1);
        }
        collectionsWhileMaking(x, 1);
        x.every(2);
        CHECK.due("from now on", collectionsWhileMaking(x, 1), 0);
        CHECK.due("every 2", collectionsWhileMaking(x, 1), 1);
        x.every(1);
        CHECK.due("every 1", collectionsWhileMaking(x, 5), 5);
        x.every(Integer.MAX_VALUE);
        CHECK.due("every most", collectionsWhileMaking(x, 5), 0);
        x.every(0);
        CHECK.due("none", collectionsWhileMaking(x, 10), 0);
    }

    private static void everyCountsOnlyWhatIsMade() throws ReflectiveOperationException {
        MovingHeap x = new MovingHeap();
        x.every(2);
        for (int i = 0; i < 3; i++) {
            Check.thrown(() -> x.array(0, -1, false));
            Check.thrown(() -> x.array(0, 100000, false));
        }
        CHECK.due("the first", collectionsWhileMaking(x, 1), 0);
        CHECK.due("the second", collectionsWhileMaking(x, 1), 1);
    }

    private static void refusedEveryChangesNoCount() throws ReflectiveOperationException {
        MovingHeap x = new MovingHeap();
        x.every(2);
        collectionsWhileMaking(x, 1);
        Check.thrown(() -> x.every(-1));
        CHECK.due("the second", collectionsWhileMaking(x, 1), 1);
        CHECK.due("the third", collectionsWhileMaking(x, 1), 0);
    }

    private static void collectionsWhenNeeded() throws ReflectiveOperationException {
        MovingHeap x = new MovingHeap();
        x.array(0, 50000, false);
        x.hold(0, -1);
        Object before = half(x);
        x.array(0, 49996, false);
        CHECK.due("there is room", before == half(x) ? 0 : 1, 0);
        x.array(1, 0, false);
        CHECK.due("there is none", before == half(x) ? 0 : 1, 1);
    }

    /** 0: none but those that are needed, and here none is. */
    private static void noCollectionWithoutNeed() throws ReflectiveOperationException {
        MovingHeap x = new MovingHeap();
        x.every(1);
        x.every(0);
        Object before = half(x);
        x.array(0, 50000, false);
        x.hold(0, -1);
        x.array(0, 49996, false);
        Check.thrown(() -> x.array(0, -1, false));
        Check.thrown(() -> x.object(0, 0, false));
        x.audit();
        CHECK.due("no collection", before == half(x) ? 0 : 1, 0);
    }

    /** In 512 calls made stays far below the greatest int, so the count starts high here. */
    private static void madeWraps() throws ReflectiveOperationException {
        MovingHeap x = new MovingHeap();
        setMade(x, Integer.MAX_VALUE - 12);
        x.array(0, 10, false);
        CHECK.due("the greatest int", x.made(), Integer.MAX_VALUE);
        x.text(0, 0, true);
        CHECK.due("the greatest int still", x.made(), Integer.MAX_VALUE);
        x.array(0, 10, false);
        CHECK.due("wrapped", x.made(), Integer.MIN_VALUE + 11);
        setMade(x, -10);
        x.closure(0, 0, 0, 0);
        CHECK.due("0 again", x.made(), 0);
    }

    private static void setMade(MovingHeap x, int cells) throws ReflectiveOperationException {
        Field field = MovingHeap.class.getDeclaredField("madeCells");
        field.setAccessible(true);
        field.setInt(x, cells);
    }

    private static void auditSeesLostReferences() throws ReflectiveOperationException {
        // Behind the two arrays, at 8, there is no thing yet.
        for (int lost : new int[] {2, 5, 8, -1, 100, Integer.MIN_VALUE, Integer.MAX_VALUE}) {
            MovingHeap x = new MovingHeap();
            fillBothHalves(x);
            x.array(0, 2, true);
            x.array(1, 3, false);
            CHECK.due("none is lost", x.audit(), 0);
            roots(x)[7] = lost;
            CHECK.due("one in a root", x.audit(), 1);
            x.link(0, 0, 7);
            x.link(0, 1, 7);
            CHECK.due("and two in an array", x.audit(), 3);
            roots(x)[7] = 0;
            CHECK.due("two in an array", x.audit(), 2);
            x.hold(5, 0);
            CHECK.due("each but once", x.audit(), 2);
        }
    }

    private static void auditLooksAtTheFirstAndTheLastOfAll() throws ReflectiveOperationException {
        for (int r : new int[] {0, 63}) {
            MovingHeap x = new MovingHeap();
            roots(x)[r] = 999;
            CHECK.due("root " + r, x.audit(), 1);
        }
        int[] last = {0, 63, 4999, 7};
        for (int thing = 1; thing <= 3; thing++) {
            MovingHeap x = Samples.withMostFields();
            x.array(2, 5000, true);
            x.closure(3, 8, 0xff, 10);
            roots(x)[9] = 99999;
            x.link(thing, 0, 9);
            x.link(thing, last[thing], 9);
            roots(x)[9] = 0;
            CHECK.due("first and last of " + thing, x.audit(), 2);
        }
    }

    private static void auditPassesOverWhatIsNotReached() throws ReflectiveOperationException {
        MovingHeap x = new MovingHeap();
        x.array(0, 1, true);
        roots(x)[7] = 999;
        x.link(0, 0, 7);
        x.hold(7, -1);
        CHECK.due("reached", x.audit(), 1);
        x.hold(0, -1);
        CHECK.due("not reached", x.audit(), 0);
    }

    /** What was in the memory before must not pass for a thing. */
    private static void fillBothHalves(MovingHeap x) {
        for (int half = 0; half < 2; half++) {
            x.array(0, 100, false);
            for (int i = 0; i < 100; i++) {
                x.put(0, i, 1);
            }
            x.hold(0, -1);
            x.collect();
        }
    }

    private static int collectionsWhileMaking(MovingHeap x, int things)
            throws ReflectiveOperationException {
        int collections = 0;
        for (int i = 0; i < things; i++) {
            Object before = half(x);
            x.array(0, 1, false);
            collections += before == half(x) ? 0 : 1;
        }
        return collections;
    }

    /** The half that is used: each collection goes to the other one. */
    private static Object half(MovingHeap x) throws ReflectiveOperationException {
        return inside(inside(x, "heap"), "here");
    }

    private static int[] roots(MovingHeap x) throws ReflectiveOperationException {
        return (int[]) inside(inside(x, "heap"), "roots");
    }

    private static Object inside(Object of, String name) throws ReflectiveOperationException {
        Field field = of.getClass().getDeclaredField(name);
        field.setAccessible(true);
        return field.get(of);
    }
}
