/** Heaps and wrong inputs that many tests begin with. */
final class Scenes {
    /** Both neighbours of 0 .. 5, values that are variables when bits are cut off, and the ends of int. */
    static final int[] NO_VARIABLES = {
        -1, 6, -2, 7, 8, -6, 256, 65536, -65536, Integer.MIN_VALUE, Integer.MIN_VALUE + 5, Integer.MAX_VALUE};
    static final int HEAP_CELLS = 60;
    private static final int LARGEST_VECTOR = 6;
    private static final int SMALLEST_VECTOR = 3;

    private Scenes() {
    }

    /**
     * Variable 0 holds NOTHING, 1 the number 7, 2 a VECTOR of 3 fields (7, itself, NOTHING), 3 a WEAK of it,
     * 4 a TABLE of 2 entries (the VECTOR: 7, itself: the VECTOR), 5 a VECTOR of 1 field that is registered
     * with 12. Another waits with 11, and one more is held by nothing. Six were made; 26 cells; 1 collection.
     */
    static void oneOfEach(Trial t) {
        t.is(1, "vector", 2, 3);
        t.yes("number", 1, 7);
        t.yes("set", 2, 0, 1);
        t.yes("set", 2, 1, 2);
        t.is(2, "weak", 3, 2);
        t.is(3, "table", 4);
        t.yes("put", 4, 2, 1);
        t.yes("put", 4, 4, 2);
        t.is(4, "vector", 5, 2);
        t.yes("register", 5, 11);
        t.drop(5);
        t.is(0, "collect");
        t.is(5, "vector", 5, 1);
        t.yes("register", 5, 12);
        t.is(6, "vector", 0, 1);
        t.drop(0);
        t.is(26, "used");
        t.is(1, "waiting");
        t.is(1, "collections");
    }

    /** As oneOfEach, and the other 34 cells are taken by six objects that nothing holds. */
    static void oneOfEachAndNoCellLeft(Trial t) {
        oneOfEach(t);
        loose(t, 0, 6, 34);
        t.drop(0);
        t.is(HEAP_CELLS, "used");
    }

    /**
     * The variables are as in oneOfEach, and objects lie below them. Field 2 of the VECTOR in 2 holds a VECTOR
     * (VECTOR, 31), the VECTOR in it (TABLE, NOTHING), the TABLE in that two entries: under the first of these
     * VECTORS a WEAK of the second, under the second 32. The second is registered with 14. The one that waits
     * with 11 holds one that waits behind it with 10 and holds 33; the one in 5, registered with 12, holds one
     * that holds 34; one that nothing holds, registered with 13, holds one that holds 35. Thirteen were made;
     * 54 cells; 1 collection.
     */
    static void nested(Trial t) {
        vectorAround(t, 0, 1, 33);
        t.is(2, "vector", 5, 2);
        t.yes("set", 5, 0, 0);
        t.yes("register", 5, 11);
        t.yes("register", 0, 10);
        t.drop(5, 0);
        t.is(0, "collect");
        vectorsAboveTable(t);
        t.is(7, "vector", 2, 3);
        t.yes("number", 1, 7);
        t.yes("set", 2, 0, 1);
        t.yes("set", 2, 1, 2);
        t.yes("set", 2, 2, 0);
        t.is(8, "weak", 3, 2);
        t.is(9, "table", 4);
        t.yes("put", 4, 2, 1);
        t.yes("put", 4, 4, 2);
        registeredAround(t, 10, 34, 12);
        t.yes("assign", 5, 1);
        registeredAround(t, 12, 35, 13);
        t.yes("number", 1, 7);
        t.drop(0);
        t.is(54, "used");
        t.is(2, "waiting");
        t.is(1, "collections");
    }

    /** As nested, and the other 6 cells are taken by one that nothing holds. */
    static void nestedAndNoCellLeft(Trial t) {
        nested(t);
        loose(t, 0, 13, 6);
        t.drop(0);
        t.is(HEAP_CELLS, "used");
    }

    private static void vectorAround(Trial t, int v, int hash, int number) {
        t.is(hash, "vector", v, 1);
        t.yes("number", 1, number);
        t.yes("set", v, 0, 1);
    }

    private static void registeredAround(Trial t, int hash, int number, int tag) {
        vectorAround(t, 0, hash, number);
        t.is(hash + 1, "vector", 1, 1);
        t.yes("set", 1, 0, 0);
        t.yes("register", 1, tag);
    }

    private static void vectorsAboveTable(Trial t) {
        t.is(3, "table", 5);
        t.is(4, "vector", 3, 2);
        t.yes("set", 3, 0, 5);
        t.yes("register", 3, 14);
        t.is(5, "vector", 0, 2);
        t.yes("set", 0, 0, 3);
        t.yes("number", 1, 31);
        t.yes("set", 0, 1, 1);
        t.is(6, "weak", 4, 3);
        t.yes("put", 5, 0, 4);
        t.yes("number", 1, 32);
        t.yes("put", 5, 3, 1);
    }

    /** Takes so many cells with VECTORS of which variable v holds only the last; answers the last hash. */
    static int loose(Trial t, int v, int made, int cells) {
        int left = cells;
        int last = made;
        while (left > 0) {
            int size = sizeThatLeavesRoom(left);
            last++;
            t.is(last, "vector", v, size - 2);
            left -= size;
        }
        return last;
    }

    /** The same, but variable 0 holds them all: the last, whose field 0 holds the one before, and so on. */
    static int chain(Trial t, int made, int cells) {
        int left = cells;
        int last = made;
        t.drop(0);
        while (left > 0) {
            int size = sizeThatLeavesRoom(left);
            last++;
            t.is(last, "vector", 1, size - 2);
            t.yes("set", 1, 0, 0);
            t.yes("assign", 0, 1);
            left -= size;
        }
        t.drop(1);
        return last;
    }

    private static int sizeThatLeavesRoom(int left) {
        for (int size = LARGEST_VECTOR; size > SMALLEST_VECTOR; size--) {
            if (left == size || left - size >= SMALLEST_VECTOR) {
                return size;
            }
        }
        return SMALLEST_VECTOR;
    }
}
