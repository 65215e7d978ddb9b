/** Heaps and numbers that several tests start from. */
final class Samples {
    static final int[] NO_ROOTS = {-1, 64, Integer.MIN_VALUE, Integer.MAX_VALUE};

    private Samples() {
    }

    /** Roots 0 to 5: an object (number, reference), numbers, references, a text, a closure, none. */
    static MovingHeap oneOfEach() {
        return ofEach(2);
    }

    /** Roots 0 to 5 as in oneOfEach, but the things have no fields, elements, characters, places. */
    static MovingHeap emptyOfEach() {
        return ofEach(0);
    }

    private static MovingHeap ofEach(int n) {
        MovingHeap x = new MovingHeap();
        x.shape(-1, n, 0b10, 5);
        x.object(0, 0, false);
        x.array(1, n, false);
        x.array(2, n, true);
        x.text(3, n, false);
        x.closure(4, n, 0b10, 0);
        return x;
    }

    /** Roots 0 and 1: objects of 64 fields, all numbers, all references. */
    static MovingHeap withMostFields() {
        MovingHeap x = new MovingHeap();
        for (int c = 0; c < 4; c++) {
            x.shape(c - 1, 16, 0, 1);
        }
        for (int c = 4; c < 8; c++) {
            x.shape(c == 4 ? -1 : c - 1, 16, -1, 1);
        }
        x.object(0, 3, false);
        x.object(1, 7, false);
        return x;
    }

    /** Root r reaches 100000 less that many cells; classes 0, 1 and 2 have the prices 1, 0 and 1000. */
    static MovingHeap withCellsLeft(int left, int r) {
        MovingHeap x = new MovingHeap();
        x.shape(-1, 0, 0, 1);
        x.shape(-1, 0, 0, 0);
        x.shape(-1, 0, 0, 1000);
        x.array(r, 100000 - left - 2, false);
        return x;
    }

    /** 180000 less that many places are reached, 5000 less that many by root r; class c has c fields. */
    static MovingHeap withPlacesLeft(int left, int r) {
        MovingHeap x = new MovingHeap();
        for (int c = 0; c <= 16; c++) {
            x.shape(-1, c, 0b101, 1);
        }
        for (int s = 0; s < 7; s++) {
            x.text(s, 99992, true);
        }
        x.text(r, (5000 - left - 2) * 4, true);
        return x;
    }

    /** Root 0 has an array of 100000 cells, roots 1 to 4 free texts: 180000 places in all. */
    static MovingHeap full(boolean refs) {
        MovingHeap x = new MovingHeap();
        x.array(0, 99998, refs);
        for (int r = 1; r < 4; r++) {
            x.text(r, 99992, true);
        }
        x.text(4, 4998 * 4, true);
        return x;
    }
}
