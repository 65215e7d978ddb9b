/** Promises 1 and 2: a new object, and shape. */
public final class ShapesTest {
    private static final Check CHECK = new Check();

    public static void main(String[] args) {
        noClassesAtFirst();
        noThingsAtFirst();
        rootsHoldNoneAtFirst();
        classesAreNumberedFrom0();
        eachClassHasItsOwnPrice();
        fieldsOfTheOneAboveComeFirst();
        overIsAClassOrMinus1();
        newFieldsAre0To16();
        otherBitsDoNotMatter();
        priceIs0To1000();
        atMost100Classes();
        atMost64Fields();
        argumentBeforeState();
        refusedShapeChangesNothing();
        CHECK.end("ShapesTest");
    }

    private static void noClassesAtFirst() {
        MovingHeap x = new MovingHeap();
        CHECK.throwsIt(Check.ARGUMENT, "new: object", () -> x.object(0, 0, false));
        CHECK.throwsIt(Check.ARGUMENT, "new: shape over 0", () -> x.shape(0, 0, 0, 0));
        CHECK.due("new: the first class", x.shape(-1, 0, 0, 0), 0);
    }

    private static void noThingsAtFirst() {
        MovingHeap x = new MovingHeap();
        CHECK.due("new: made", x.made(), 0);
        CHECK.due("new: audit", x.audit(), 0);
        CHECK.due("new: collect", x.collect(), 0);
        CHECK.due("new: all cells are left", x.array(0, 99998, false), 100000);
    }

    private static void rootsHoldNoneAtFirst() {
        MovingHeap x = new MovingHeap();
        for (int r = 0; r < 64; r++) {
            int root = r;
            for (int what = 0; what < 4; what++) {
                CHECK.due("new: told(" + r + ", " + what + ")", x.told(r, what), 0);
            }
            CHECK.throwsIt(Check.BOUNDS, "new: get(" + r + ", 0)", () -> x.get(root, 0));
        }
    }

    private static void classesAreNumberedFrom0() {
        MovingHeap x = new MovingHeap();
        CHECK.due("first class", x.shape(-1, 0, 0, 0), 0);
        CHECK.due("second class", x.shape(-1, 16, 0, 1000), 1);
        CHECK.due("third class", x.shape(0, 1, 1, 7), 2);
    }

    private static void eachClassHasItsOwnPrice() {
        MovingHeap x = new MovingHeap();
        x.shape(-1, 0, 0, 30);
        x.shape(0, 0, 0, 7);
        x.shape(1, 0, 0, 0);
        CHECK.due("of the one above", x.object(0, 0, false), 30);
        CHECK.due("not that of the one above", x.object(0, 1, false), 7);
        CHECK.due("0, not that of the one above", x.object(0, 2, false), 0);
    }

    private static void fieldsOfTheOneAboveComeFirst() {
        MovingHeap x = new MovingHeap();
        x.shape(-1, 3, 0b010, 1);
        x.shape(0, 0, 0b111, 1);
        x.shape(1, 2, 0b01, 1);
        x.shape(0, 2, 0b10, 1);
        x.shape(-1, 0, 0, 1);
        x.shape(4, 1, 1, 1);
        hasFields(x, 0, "nrn");
        hasFields(x, 1, "nrn");
        hasFields(x, 2, "nrnrn");
        hasFields(x, 3, "nrnnr");
        hasFields(x, 4, "");
        hasFields(x, 5, "r");
    }

    private static void overIsAClassOrMinus1() {
        MovingHeap x = new MovingHeap();
        CHECK.due("over -1", x.shape(-1, 1, 0, 1), 0);
        CHECK.due("over the only class", x.shape(0, 1, 0, 1), 1);
        CHECK.due("over the last class", x.shape(1, 1, 0, 1), 2);
        CHECK.throwsIt(Check.ARGUMENT, "over itself", () -> x.shape(3, 1, 0, 1));
        CHECK.throwsIt(Check.ARGUMENT, "over 4", () -> x.shape(4, 1, 0, 1));
        CHECK.throwsIt(Check.ARGUMENT, "over -2", () -> x.shape(-2, 1, 0, 1));
        CHECK.throwsIt(Check.ARGUMENT, "over least", () -> x.shape(Integer.MIN_VALUE, 1, 0, 1));
        CHECK.throwsIt(Check.ARGUMENT, "over most", () -> x.shape(Integer.MAX_VALUE, 1, 0, 1));
        hasFields(x, 0, "n");
        hasFields(x, 2, "nnn");
    }

    private static void newFieldsAre0To16() {
        MovingHeap x = new MovingHeap();
        CHECK.throwsIt(Check.ARGUMENT, "n -1", () -> x.shape(-1, -1, 0, 1));
        CHECK.throwsIt(Check.ARGUMENT, "n 17", () -> x.shape(-1, 17, 0, 1));
        CHECK.throwsIt(Check.ARGUMENT, "n least", () -> x.shape(-1, Integer.MIN_VALUE, 0, 1));
        CHECK.throwsIt(Check.ARGUMENT, "n most", () -> x.shape(-1, Integer.MAX_VALUE, 0, 1));
        CHECK.due("n 0", x.shape(-1, 0, 0, 1), 0);
        CHECK.due("n 16", x.shape(-1, 16, 0, 1), 1);
        hasFields(x, 0, "");
        hasFields(x, 1, "n".repeat(16));
    }

    private static void otherBitsDoNotMatter() {
        MovingHeap x = new MovingHeap();
        x.shape(-1, 2, -1 << 2, 1);
        x.shape(0, 2, 0, 1);
        x.shape(-1, 16, -1, 1);
        x.shape(2, 16, 1 << 16 | 1 << 15, 1);
        x.shape(3, 16, 1 << 31 | 2, 1);
        x.shape(-1, 0, -1, 1);
        x.shape(5, 1, 0, 1);
        hasFields(x, 0, "nn");
        hasFields(x, 1, "nnnn");
        hasFields(x, 3, "r".repeat(16) + "n".repeat(15) + "r");
        hasFields(x, 4, "r".repeat(16) + "n".repeat(15) + "r" + "nr" + "n".repeat(14));
        hasFields(x, 6, "n");
    }

    private static void priceIs0To1000() {
        MovingHeap x = new MovingHeap();
        CHECK.throwsIt(Check.ARGUMENT, "price -1", () -> x.shape(-1, 1, 0, -1));
        CHECK.throwsIt(Check.ARGUMENT, "price 1001", () -> x.shape(-1, 1, 0, 1001));
        CHECK.throwsIt(Check.ARGUMENT, "price least", () -> x.shape(-1, 1, 0, Integer.MIN_VALUE));
        CHECK.throwsIt(Check.ARGUMENT, "price most", () -> x.shape(-1, 1, 0, Integer.MAX_VALUE));
        CHECK.due("price 0", x.shape(-1, 1, 0, 0), 0);
        CHECK.due("price 1000", x.shape(-1, 1, 0, 1000), 1);
        CHECK.due("it takes 0", x.object(0, 0, false), 0);
        CHECK.due("it takes 1000", x.object(0, 1, false), 1000);
    }

    private static void atMost100Classes() {
        MovingHeap x = with100Classes();
        CHECK.throwsIt(Check.STATE, "the 101st class", () -> x.shape(-1, 0, 0, 0));
        CHECK.throwsIt(Check.STATE, "the 101st class, above it the last", () -> x.shape(99, 0, 0, 0));
        CHECK.due("the last class", x.object(0, 99, false), 99);
        CHECK.due("the last class is told", x.told(0, 1), 99);
        CHECK.throwsIt(Check.ARGUMENT, "class 100", () -> x.object(0, 100, false));
    }

    /** The class c has the price c. */
    private static MovingHeap with100Classes() {
        MovingHeap x = new MovingHeap();
        for (int c = 0; c < 100; c++) {
            CHECK.due("shape", x.shape(c - 1, 0, 0, c), c);
        }
        return x;
    }

    private static void atMost64Fields() {
        MovingHeap x = with63Fields();
        CHECK.throwsIt(Check.STATE, "65 fields", () -> x.shape(3, 2, 0, 1));
        CHECK.throwsIt(Check.STATE, "79 fields", () -> x.shape(3, 16, 0, 1));
        CHECK.due("64 fields", x.shape(3, 1, 1, 1), 4);
        CHECK.throwsIt(Check.STATE, "64 fields and 1", () -> x.shape(4, 1, 0, 1));
        CHECK.throwsIt(Check.STATE, "64 fields and 16", () -> x.shape(4, 16, 0, 1));
        CHECK.due("64 fields and 0", x.shape(4, 0, 1, 1), 5);
        CHECK.due("48 fields and 16", x.shape(2, 16, 1 << 15, 1), 6);
        hasFields(x, 5, "n".repeat(63) + "r");
        hasFields(x, 6, "n".repeat(63) + "r");
    }

    /** Classes 0 to 3 of 16, 32, 48 and 63 fields. */
    private static MovingHeap with63Fields() {
        MovingHeap x = new MovingHeap();
        x.shape(-1, 16, 0, 1);
        x.shape(0, 16, 0, 1);
        x.shape(1, 16, 0, 1);
        CHECK.due("63 fields", x.shape(2, 15, 0, 1), 3);
        return x;
    }

    private static void argumentBeforeState() {
        MovingHeap many = with100Classes();
        CHECK.throwsIt(Check.ARGUMENT, "over before 100", () -> many.shape(100, 0, 0, 0));
        CHECK.throwsIt(Check.ARGUMENT, "n before 100", () -> many.shape(-1, 17, 0, 0));
        CHECK.throwsIt(Check.ARGUMENT, "price before 100", () -> many.shape(-1, 0, 0, 1001));
        MovingHeap long63 = with63Fields();
        CHECK.throwsIt(Check.ARGUMENT, "over before 64", () -> long63.shape(4, 2, 0, 1));
        CHECK.throwsIt(Check.ARGUMENT, "n before 64", () -> long63.shape(3, 17, 0, 1));
        CHECK.throwsIt(Check.ARGUMENT, "price before 64", () -> long63.shape(3, 2, 0, -1));
    }

    private static void refusedShapeChangesNothing() {
        MovingHeap x = with63Fields();
        x.object(0, 3, false);
        Check.thrown(() -> x.shape(4, 1, -1, 9));
        Check.thrown(() -> x.shape(-1, 17, -1, 9));
        Check.thrown(() -> x.shape(3, 1, -1, 1001));
        Check.thrown(() -> x.shape(3, 2, -1, 9));
        CHECK.throwsIt(Check.ARGUMENT, "no class came of these", () -> x.object(1, 4, false));
        CHECK.due("the next number", x.shape(3, 0, 0, 2), 4);
        hasFields(x, 3, "n".repeat(63));
        hasFields(x, 4, "n".repeat(63));
        CHECK.due("the price of the one above", x.object(9, 3, false), 1);
    }

    private static void hasFields(MovingHeap x, int c, String want) {
        x.object(9, c, false);
        for (int i = 0; i < want.length(); i++) {
            int field = i;
            if (want.charAt(i) == 'r') {
                CHECK.throwsIt(Check.ARGUMENT, "class " + c + " field " + i, () -> x.get(9, field));
                x.link(9, i, 9);
            } else {
                CHECK.due("class " + c + " field " + i, x.put(9, i, 1), 0);
            }
        }
        CHECK.throwsIt(Check.BOUNDS, "class " + c + " end", () -> x.get(9, want.length()));
    }
}
