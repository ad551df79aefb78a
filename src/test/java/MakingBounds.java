/** The sentences of promises 1 to 6, each with a test of its own. */
final class MakingBounds {
    private static final int[] NO_NUMBERS = {
        -1000001, 1000001, -1000002, 2000000, Integer.MIN_VALUE, Integer.MIN_VALUE + 1, Integer.MAX_VALUE};
    private static final int[] NO_FIELD_COUNTS = {
        0, 5, -1, 6, 257, 65537, Integer.MIN_VALUE, Integer.MAX_VALUE - 1, Integer.MAX_VALUE};

    private MakingBounds() {
    }

    static void all(Sentences told) {
        told.section("Promise 1: A new object");
        told.test("No objects;", MakingBounds::noObjects);
        told.test("all variables hold NOTHING.", MakingBounds::allVariablesHoldNothing);
        told.section("Promise 2: number");
        told.test("Variable v holds the number n from now on. Answers true;", MakingBounds::numberIsHeld);
        told.test("refused with false when v is not 0 .. 5", MakingBounds::numberInNoVariable);
        told.test("or n is not -1000000 .. 1000000.", MakingBounds::numberOutOfBounds);
        told.section("Promise 3: assign");
        told.test("Variable v holds what variable w holds,", MakingBounds::assignHolds);
        told.test("or NOTHING when w is -1. Answers true;", MakingBounds::assignNothing);
        told.test("refused with false when v is not 0 .. 5", MakingBounds::assignToNoVariable);
        told.test("or w is not -1 .. 5.", MakingBounds::assignFromNoVariable);
        told.section("Promise 4: vector");
        told.test("Makes a VECTOR with n fields, all NOTHING, which variable v then holds. Answers its hash;",
            MakingBounds::vectorIsMade);
        told.test("REFUSED when v is not 0 .. 5", MakingBounds::vectorInNoVariable);
        told.test("or n is not 1 .. 4;", MakingBounds::vectorOfNoFieldCount);
        told.test("otherwise perhaps FULL.", MakingBounds::vectorPerhapsFull);
        told.test("(What v held before it holds until the collection, if there is one, is over.)",
            t -> heldUntilTheCollectionIsOver(t, 6, "vector", 0, 4));
        told.section("Promise 5: weak");
        told.test("Makes a WEAK whose target is the object in variable w, which variable v then holds. "
            + "Answers its hash;", MakingBounds::weakIsMade);
        told.test("REFUSED when v or w is not 0 .. 5", MakingBounds::weakInOrOfNoVariable);
        told.test("or w holds no object;", MakingBounds::weakOfNoObject);
        told.test("otherwise perhaps FULL.", MakingBounds::weakPerhapsFull);
        told.test("(What v held before it holds until the collection, if there is one, is over.)",
            MakingBounds::weakInItsTargetsVariable);
        told.section("Promise 6: table");
        told.test("Makes a TABLE without entries, which variable v then holds. Answers its hash;",
            MakingBounds::tableIsMade);
        told.test("REFUSED when v is not 0 .. 5;", MakingBounds::tableInNoVariable);
        told.test("otherwise perhaps FULL.", MakingBounds::tablePerhapsFull);
        told.test("(What v held before it holds until the collection, if there is one, is over.)",
            t -> heldUntilTheCollectionIsOver(t, 8, "table", 0));
    }

    private static void noObjects(Trial t) {
        t.is(0, "used");
        t.is(0, "waiting");
        t.is(0, "collections");
        t.refused("next", 0);
        for (int v = 0; v < 6; v++) {
            t.zero("hash", v);
            t.refused("place", v);
            t.refused("size", v);
        }
        t.is(0, "collect");
        Trial used = t.another();
        used.is(1, "vector", 0, 1);
        Trial later = t.another();
        later.is(0, "used");
        later.is(1, "vector", 0, 1);
        later.is(0, "place", 0);
    }

    private static void allVariablesHoldNothing(Trial t) {
        for (int v = 0; v < 6; v++) {
            t.is(ResurrectingHeap.NOTHING, "kind", v);
            t.zero("value", v);
        }
    }

    private static void numberIsHeld(Trial t) {
        int[] numbers = {-1000000, 1000000, 0, -1, 999999, -999999};
        for (int v = 0; v < 6; v++) {
            t.yes("number", v, numbers[v]);
        }
        for (int v = 0; v < 6; v++) {
            t.is(ResurrectingHeap.NUMBER, "kind", v);
            t.is(numbers[v], "value", v);
        }
        t.is(0, "used");
        t.is(1, "vector", 0, 1);
        t.yes("number", 0, 4);
        t.is(4, "value", 0);
        t.is(1, "collect");
        t.yes("number", 0, 5);
        t.is(5, "value", 0);
    }

    private static void numberInNoVariable(Trial t) {
        Scenes.oneOfEach(t);
        for (int v : Scenes.NO_VARIABLES) {
            t.refused("number", v, 3);
        }
        t.yes("number", 0, 3);
        t.yes("number", 5, 4);
        t.is(3, "value", 0);
        t.is(4, "value", 5);
    }

    private static void numberOutOfBounds(Trial t) {
        Scenes.oneOfEach(t);
        for (int n : NO_NUMBERS) {
            t.refused("number", 1, n);
            t.refused("number", 2, n);
        }
        t.yes("number", 1, -1000000);
        t.is(-1000000, "value", 1);
        t.yes("number", 1, 1000000);
        t.is(1000000, "value", 1);
    }

    private static void assignHolds(Trial t) {
        Scenes.oneOfEach(t);
        int[] kinds = {0, 1, 2, 3, 4, 2};
        int[] hashes = {0, 0, 1, 2, 3, 5};
        for (int w = 0; w < 6; w++) {
            Trial one = t.another();
            Scenes.oneOfEach(one);
            int v = (w + 2) % 6;
            one.yes("assign", v, w);
            one.is(kinds[w], "kind", v);
            one.is(hashes[w], "hash", v);
            one.is(w == 1 ? 7 : 0, "value", v);
            one.is(kinds[w], "kind", w);
            one.yes("assign", w, w);
            one.is(kinds[w], "kind", w);
            one.is(hashes[w], "hash", w);
        }
        t.yes("assign", 0, 2);
        t.yes("set", 0, 2, 1);
        t.yes("get", 5, 2, 2);
        t.is(7, "value", 5);
    }

    private static void assignNothing(Trial t) {
        for (int v = 0; v < 6; v++) {
            Trial one = t.another();
            Scenes.oneOfEach(one);
            one.yes("assign", v, -1);
            one.is(ResurrectingHeap.NOTHING, "kind", v);
            one.is(26, "used");
        }
    }

    private static void assignToNoVariable(Trial t) {
        Scenes.oneOfEach(t);
        for (int v : Scenes.NO_VARIABLES) {
            t.refused("assign", v, 2);
            t.refused("assign", v, -1);
        }
        t.yes("assign", 0, 2);
        t.yes("assign", 5, 1);
        t.is(1, "hash", 0);
        t.is(7, "value", 5);
    }

    private static void assignFromNoVariable(Trial t) {
        Scenes.oneOfEach(t);
        for (int w : Scenes.NO_VARIABLES) {
            if (w != -1) {
                t.refused("assign", 2, w);
            }
        }
        t.yes("assign", 2, 5);
        t.is(5, "hash", 2);
        t.yes("assign", 2, 0);
        t.is(0, "kind", 2);
        t.yes("assign", 1, -1);
        t.is(0, "kind", 1);
    }

    private static void vectorIsMade(Trial t) {
        int made = 0;
        for (int n = 1; n <= 4; n++) {
            for (int v : new int[] {0, 5}) {
                made++;
                t.is(made, "vector", v, n);
                t.is(made, "hash", v);
                t.is(ResurrectingHeap.VECTOR, "kind", v);
                t.is(n, "size", v);
                for (int k = 0; k < n; k++) {
                    t.yes("number", 2, 3);
                    t.yes("get", 2, v, k);
                    t.is(ResurrectingHeap.NOTHING, "kind", 2);
                }
            }
        }
        t.is(36, "used");
    }

    private static void vectorInNoVariable(Trial t) {
        Scenes.oneOfEach(t);
        Trial full = t.another();
        Scenes.oneOfEachAndNoCellLeft(full);
        for (int v : Scenes.NO_VARIABLES) {
            t.refused("vector", v, 1);
            full.refused("vector", v, 4);
        }
        t.is(7, "vector", 0, 1);
        t.is(8, "vector", 5, 1);
    }

    private static void vectorOfNoFieldCount(Trial t) {
        Scenes.oneOfEach(t);
        Trial full = t.another();
        Scenes.oneOfEachAndNoCellLeft(full);
        for (int n : NO_FIELD_COUNTS) {
            t.refused("vector", 2, n);
            full.refused("vector", 2, n);
        }
        t.is(7, "vector", 2, 1);
        t.is(8, "vector", 2, 4);
    }

    private static void vectorPerhapsFull(Trial t) {
        for (int n = 1; n <= 4; n++) {
            perhapsFull(t, 2 + n, "vector", 5, n);
        }
    }

    private static void weakIsMade(Trial t) {
        t.is(1, "vector", 0, 1);
        t.is(2, "table", 1);
        t.is(3, "weak", 5, 0);
        t.is(ResurrectingHeap.WEAK, "kind", 5);
        t.is(3, "hash", 5);
        t.is(1, "size", 5);
        t.yes("get", 2, 5, 0);
        t.is(1, "hash", 2);
        t.is(4, "weak", 0, 1);
        t.yes("get", 2, 0, 0);
        t.is(2, "hash", 2);
        t.is(5, "weak", 0, 5);
        t.yes("get", 2, 0, 0);
        t.is(3, "hash", 2);
        t.is(20, "used");
    }

    private static void weakInOrOfNoVariable(Trial t) {
        Scenes.oneOfEach(t);
        Trial full = t.another();
        Scenes.oneOfEachAndNoCellLeft(full);
        for (int v : Scenes.NO_VARIABLES) {
            t.refused("weak", v, 2);
            t.refused("weak", 2, v);
            full.refused("weak", v, 2);
            full.refused("weak", 2, v);
        }
        t.is(7, "weak", 0, 5);
        t.is(8, "weak", 5, 0);
    }

    private static void weakOfNoObject(Trial t) {
        Scenes.oneOfEach(t);
        Trial full = t.another();
        Scenes.oneOfEachAndNoCellLeft(full);
        for (int w = 0; w < 2; w++) {
            for (int v = 0; v < 6; v++) {
                t.refused("weak", v, w);
                full.refused("weak", v, w);
            }
        }
        for (int w = 2; w < 6; w++) {
            t.is(5 + w, "weak", 0, w);
        }
    }

    private static void weakPerhapsFull(Trial t) {
        perhapsFull(t, 3, "weak", 5, 0);
    }

    /** When v is w, the WEAK's target is what v held before. */
    private static void weakInItsTargetsVariable(Trial t) {
        heldUntilTheCollectionIsOver(t, 3, "weak", 0, 0);
        Trial made = t.another();
        made.is(1, "vector", 0, 1);
        made.is(2, "weak", 0, 0);
        made.is(1, "size", 0);
        made.yes("get", 1, 0, 0);
        made.is(1, "hash", 1);
        made.drop(1);
        made.is(1, "collect");
        made.is(0, "size", 0);
    }

    private static void tableIsMade(Trial t) {
        t.is(1, "table", 0);
        t.is(2, "table", 5);
        t.is(ResurrectingHeap.TABLE, "kind", 0);
        t.is(1, "hash", 0);
        t.is(2, "hash", 5);
        t.is(0, "size", 5);
        t.yes("number", 1, 3);
        t.yes("find", 1, 5, 0);
        t.is(ResurrectingHeap.NOTHING, "kind", 1);
        t.is(16, "used");
    }

    private static void tableInNoVariable(Trial t) {
        Scenes.oneOfEach(t);
        Trial full = t.another();
        Scenes.oneOfEachAndNoCellLeft(full);
        for (int v : Scenes.NO_VARIABLES) {
            t.refused("table", v);
            full.refused("table", v);
        }
        t.is(7, "table", 0);
        t.is(8, "table", 5);
    }

    private static void tablePerhapsFull(Trial t) {
        perhapsFull(t, 8, "table", 5);
    }

    /** All but so many cells are held, then all but one fewer; the call makes its object in variable 5. */
    private static void perhapsFull(Trial t, int cells, String method, int... with) {
        Trial enough = t.another();
        int made = Scenes.chain(enough, 0, 60 - cells);
        enough.is(made + 1, method, with);
        enough.is(made + 1, "hash", 5);
        Trial oneFewer = t.another();
        made = Scenes.chain(oneFewer, 0, 61 - cells);
        oneFewer.yes("number", 5, 8);
        oneFewer.is(ResurrectingHeap.FULL, method, with);
        oneFewer.is(8, "value", 5);
        oneFewer.yes("get", 0, 0, 0);
        oneFewer.is(made + 1, method, with);
    }

    /** The call makes its object in variable 0, which holds all that lies in the heap. */
    private static void heldUntilTheCollectionIsOver(Trial t, int cells, String method, int... with) {
        Trial full = t.another();
        int made = Scenes.chain(full, 0, 60);
        full.is(ResurrectingHeap.FULL, method, with);
        full.is(1, "collections");
        full.is(made, "hash", 0);
        full.is(60, "used");
        Trial collected = t.another();
        made = Scenes.chain(collected, 0, 12);
        made = Scenes.loose(collected, 1, made, 48);
        collected.drop(1);
        collected.is(made + 1, "weak", 2, 0);
        collected.is(1, "collections");
        collected.is(15, "used");
        made = Scenes.loose(collected, 1, made + 1, 45);
        collected.drop(1);
        collected.is(made + 1, method, with);
        collected.is(2, "collections");
        collected.is(1, "size", 2);
        collected.is(15, "place", 0);
        collected.is(15 + cells, "used");
        collected.is(2, "collect");
        collected.is(0, "size", 2);
        collected.is(3, "place", 0);
        Trial roomy = t.another();
        roomy.is(1, "vector", 0, 1);
        roomy.is(2, "weak", 1, 0);
        roomy.is(3, method, with);
        roomy.is(0, "collections");
        roomy.is(1, "size", 1);
        roomy.is(6 + cells, "used");
    }
}
