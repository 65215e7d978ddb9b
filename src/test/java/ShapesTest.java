/** Promises 1 and 2: a new object, and shape. */
public final class ShapesTest {
    private static final Check CHECK = new Check();

    public static void main(String[] args) {
        newObject();
        numbersOfClasses();
        fieldsOfTheOneAboveComeFirst();
        higherBitsDoNotMatter();
        wrongArguments();
        mostClasses();
        mostFields();
        CHECK.end("ShapesTest");
    }

    private static void newObject() {
        MovingHeap x = new MovingHeap();
        for (int r = 0; r < 64; r++) {
            int root = r;
            CHECK.due("new: told(r, 0)", x.told(r, 0), 0);
            CHECK.due("new: told(r, 1)", x.told(r, 1), 0);
            CHECK.due("new: told(r, 2)", x.told(r, 2), 0);
            CHECK.due("new: told(r, 3)", x.told(r, 3), 0);
            CHECK.throwsIt(Check.BOUNDS, "new: get(r, 0)", () -> x.get(root, 0));
        }
        CHECK.throwsIt(Check.ARGUMENT, "new: object(0, 0)", () -> x.object(0, 0, false));
        CHECK.throwsIt(Check.ARGUMENT, "new: shape(0, ..)", () -> x.shape(0, 0, 0, 0));
        CHECK.due("new: made", x.made(), 0);
        CHECK.due("new: collect", x.collect(), 0);
        CHECK.due("new: audit", x.audit(), 0);
        CHECK.due("new: every", x.every(0), 0);
    }

    private static void numbersOfClasses() {
        MovingHeap x = new MovingHeap();
        CHECK.due("first class", x.shape(-1, 0, 0, 0), 0);
        CHECK.due("second class", x.shape(-1, 16, 0, 1000), 1);
        CHECK.due("third class", x.shape(0, 1, 1, 7), 2);
        CHECK.due("price 0", x.object(0, 0, false), 0);
        CHECK.due("price 1000", x.object(0, 1, false), 1000);
        CHECK.due("the price is its own", x.object(0, 2, false), 7);
    }

    private static void fieldsOfTheOneAboveComeFirst() {
        MovingHeap x = new MovingHeap();
        x.shape(-1, 3, 0b010, 1);
        x.shape(0, 0, 0b111, 1);
        x.shape(1, 2, 0b01, 1);
        x.shape(0, 2, 0b10, 1);
        isReference(x, 0, "nrn");
        isReference(x, 1, "nrn");
        isReference(x, 2, "nrnrn");
        isReference(x, 3, "nrnnr");
    }

    private static void higherBitsDoNotMatter() {
        MovingHeap x = new MovingHeap();
        x.shape(-1, 2, -1 << 2, 1);
        x.shape(0, 2, 0, 1);
        x.shape(-1, 16, -1, 1);
        x.shape(2, 16, 1 << 16 | 1 << 15, 1);
        x.shape(3, 16, 1 << 31 | 2, 1);
        isReference(x, 0, "nn");
        isReference(x, 1, "nnnn");
        isReference(x, 3, "r".repeat(16) + "n".repeat(15) + "r");
        isReference(x, 4, "r".repeat(16) + "n".repeat(15) + "r" + "nr" + "n".repeat(14));
    }

    private static void isReference(MovingHeap x, int c, String want) {
        x.object(9, c, false);
        for (int i = 0; i < want.length(); i++) {
            int field = i;
            if (want.charAt(i) == 'r') {
                CHECK.throwsIt(Check.ARGUMENT, "class " + c + " field " + i, () -> x.get(9, field));
                x.link(9, i, 9);
            } else {
                CHECK.due("class " + c + " field " + i, x.put(9, i, 1), 0);
            }
        }
        CHECK.throwsIt(Check.BOUNDS, "class " + c + " end", () -> x.get(9, want.length()));
    }

    private static void wrongArguments() {
        MovingHeap x = new MovingHeap();
        x.shape(-1, 1, 0, 1);
        CHECK.throwsIt(Check.ARGUMENT, "over 1 of 1", () -> x.shape(1, 1, 0, 1));
        CHECK.throwsIt(Check.ARGUMENT, "over -2", () -> x.shape(-2, 1, 0, 1));
        CHECK.throwsIt(Check.ARGUMENT, "over least", () -> x.shape(Integer.MIN_VALUE, 1, 0, 1));
        CHECK.throwsIt(Check.ARGUMENT, "over most", () -> x.shape(Integer.MAX_VALUE, 1, 0, 1));
        CHECK.throwsIt(Check.ARGUMENT, "n -1", () -> x.shape(-1, -1, 0, 1));
        CHECK.throwsIt(Check.ARGUMENT, "n 17", () -> x.shape(-1, 17, 0, 1));
        CHECK.throwsIt(Check.ARGUMENT, "price -1", () -> x.shape(-1, 1, 0, -1));
        CHECK.throwsIt(Check.ARGUMENT, "price 1001", () -> x.shape(-1, 1, 0, 1001));
        CHECK.due("no class came of these", x.shape(-1, 1, 0, 1), 1);
    }

    private static void mostClasses() {
        MovingHeap x = new MovingHeap();
        for (int c = 0; c < 100; c++) {
            CHECK.due("shape", x.shape(c == 0 ? -1 : 0, 0, 0, c), c);
        }
        CHECK.throwsIt(Check.STATE, "the 101st class", () -> x.shape(-1, 0, 0, 0));
        CHECK.throwsIt(Check.ARGUMENT, "over is looked at first", () -> x.shape(100, 0, 0, 0));
        CHECK.throwsIt(Check.ARGUMENT, "n is looked at first", () -> x.shape(-1, 17, 0, 0));
        CHECK.throwsIt(Check.ARGUMENT, "price is looked at first", () -> x.shape(-1, 0, 0, 1001));
        CHECK.due("the last class", x.object(0, 99, false), 99);
        CHECK.due("the last class is told", x.told(0, 1), 99);
        CHECK.throwsIt(Check.ARGUMENT, "class 100", () -> x.object(0, 100, false));
    }

    private static void mostFields() {
        MovingHeap x = new MovingHeap();
        x.shape(-1, 16, 0, 1);
        x.shape(0, 16, 0, 1);
        x.shape(1, 16, 0, 1);
        CHECK.due("63 fields", x.shape(2, 15, 0, 1), 3);
        CHECK.throwsIt(Check.STATE, "65 fields", () -> x.shape(3, 2, 0, 1));
        CHECK.due("64 fields", x.shape(3, 1, 1, 1), 4);
        CHECK.throwsIt(Check.STATE, "65 fields", () -> x.shape(4, 1, 0, 1));
        CHECK.throwsIt(Check.ARGUMENT, "price is looked at first", () -> x.shape(4, 1, 0, -1));
        CHECK.due("64 fields and none more", x.shape(4, 0, 1, 1), 5);
        isReference(x, 5, "n".repeat(63) + "r");
    }
}
