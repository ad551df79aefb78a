/** The sentences of promises 13 to 21, each with a test of its own. */
final class TellingBounds {
    private TellingBounds() {
    }

    static void all(Sentences told) {
        told.section("Promise 13: collect");
        told.test("Makes a collection (also if nothing is gone by it).", TellingBounds::collectAlways);
        told.test("Answers how many objects are gone by it.", TellingBounds::collectAnswersHowManyAreGone);
        told.section("Promise 14: kind");
        told.test("NOTHING, NUMBER, VECTOR, WEAK or TABLE, what variable v holds;", TellingBounds::kindOfEach);
        told.test("REFUSED when v is not 0 .. 5.", t -> refusedInNoVariable(t, "kind"));
        told.section("Promise 15: value");
        told.test("The number in variable v;", TellingBounds::valueOfNumber);
        told.test("0 when v is not 0 .. 5", t -> zeroInNoVariable(t, "value"));
        told.test("or holds no number.", TellingBounds::valueOfNoNumber);
        told.section("Promise 16: hash");
        told.test("The hash of the object in variable v;", TellingBounds::hashOfObject);
        told.test("0 when v is not 0 .. 5", t -> zeroInNoVariable(t, "hash"));
        told.test("or holds no object.", TellingBounds::hashOfNoObject);
        told.section("Promise 17: place");
        told.test("The place of the object in variable v;", TellingBounds::placeOfObject);
        told.test("REFUSED when v is not 0 .. 5", t -> refusedInNoVariable(t, "place"));
        told.test("or holds no object.", t -> refusedOfNoObject(t, "place"));
        told.section("Promise 18: size");
        told.test("Of the object in variable v: for a VECTOR the number of its fields,",
            TellingBounds::sizeOfVector);
        told.test("for a WEAK 1 when its target is an object and 0 otherwise,", TellingBounds::sizeOfWeak);
        told.test("for a TABLE the number of its entries;", TellingBounds::sizeOfTable);
        told.test("REFUSED when v is not 0 .. 5", t -> refusedInNoVariable(t, "size"));
        told.test("or holds no object.", t -> refusedOfNoObject(t, "size"));
        told.section("Promise 19: used");
        told.test("The number of cells that objects take", TellingBounds::usedByEachKind);
        told.test("(all that are not gone by a collection yet).", TellingBounds::usedUntilGone);
        told.section("Promise 20: waiting");
        told.test("The number of waiting objects.", TellingBounds::waitingFromNoneToEight);
        told.section("Promise 21: collections");
        told.test("The number of collections that were made.", TellingBounds::collectionsOfBothOrigins);
    }

    private static void collectAlways(Trial t) {
        t.is(0, "collect");
        t.is(1, "collections");
        t.is(1, "vector", 0, 1);
        t.is(0, "collect");
        t.is(0, "collect");
        t.is(3, "collections");
        handsOutThoughNothingIsGone(t.another());
    }

    private static void handsOutThoughNothingIsGone(Trial t) {
        t.is(1, "vector", 0, 1);
        t.is(2, "weak", 1, 0);
        t.yes("register", 0, 1);
        t.drop(0);
        t.is(0, "collect");
        t.is(0, "size", 1);
        t.is(1, "waiting");
    }

    private static void collectAnswersHowManyAreGone(Trial t) {
        for (int made = 0; made <= 20; made++) {
            Trial one = t.another();
            for (int i = 1; i <= made; i++) {
                one.is(i, "vector", 0, 1);
            }
            one.drop(0);
            one.is(made, "collect");
            one.is(0, "collect");
        }
        t.is(1, "table", 0);
        t.is(2, "vector", 1, 4);
        t.is(3, "weak", 2, 1);
        t.yes("register", 2, 1);
        t.drop(0, 1, 2);
        t.is(2, "collect");
    }

    private static void kindOfEach(Trial t) {
        Scenes.oneOfEach(t);
        int[] kinds = {ResurrectingHeap.NOTHING, ResurrectingHeap.NUMBER, ResurrectingHeap.VECTOR,
            ResurrectingHeap.WEAK, ResurrectingHeap.TABLE, ResurrectingHeap.VECTOR};
        for (int v = 0; v < 6; v++) {
            t.is(kinds[v], "kind", v);
        }
        for (int v = 0; v < 6; v++) {
            t.yes("assign", 5 - v, v);
            t.is(v < 3 ? kinds[v] : kinds[5 - v], "kind", 5 - v);
        }
    }

    private static void refusedInNoVariable(Trial t, String method) {
        Scenes.oneOfEach(t);
        t.yes("assign", 0, 4);
        for (int v : Scenes.NO_VARIABLES) {
            t.refused(method, v);
        }
        boolean kind = method.equals("kind");
        boolean place = method.equals("place");
        t.is(kind ? 4 : place ? 8 : 2, method, 0);
        t.is(kind ? 2 : place ? 20 : 1, method, 5);
    }

    private static void zeroInNoVariable(Trial t, String method) {
        for (int v = 0; v < 6; v++) {
            if (method.equals("hash")) {
                t.is(v + 1, "vector", v, 1);
            } else {
                t.yes("number", v, v + 1);
            }
        }
        for (int v : Scenes.NO_VARIABLES) {
            t.zero(method, v);
        }
        for (int v = 0; v < 6; v++) {
            t.is(v + 1, method, v);
        }
    }

    private static void refusedOfNoObject(Trial t, String method) {
        Scenes.oneOfEach(t);
        t.refused(method, 0);
        t.refused(method, 1);
        int[] sizes = {3, 1, 2, 1};
        int[] places = {0, 5, 8, 20};
        for (int v = 2; v < 6; v++) {
            t.is((method.equals("size") ? sizes : places)[v - 2], method, v);
        }
    }

    private static void valueOfNumber(Trial t) {
        for (int n : new int[] {-1000000, -999999, -1, 0, 1, 999999, 1000000}) {
            for (int v = 0; v < 6; v++) {
                t.yes("number", v, n);
                t.is(n, "value", v);
            }
        }
    }

    private static void valueOfNoNumber(Trial t) {
        Scenes.oneOfEach(t);
        for (int v : new int[] {0, 2, 3, 4, 5}) {
            t.zero("value", v);
        }
        t.is(7, "value", 1);
    }

    private static void hashOfObject(Trial t) {
        Scenes.oneOfEach(t);
        int[] hashes = {1, 2, 3, 5};
        for (int v = 2; v < 6; v++) {
            t.is(hashes[v - 2], "hash", v);
        }
        t.is(1, "collect");
        for (int v = 2; v < 6; v++) {
            t.is(hashes[v - 2], "hash", v);
        }
        t.is(11, "next", 0);
        t.is(4, "hash", 0);
    }

    private static void hashOfNoObject(Trial t) {
        Scenes.oneOfEach(t);
        t.zero("hash", 0);
        t.zero("hash", 1);
        t.is(1, "hash", 2);
    }

    private static void placeOfObject(Trial t) {
        Scenes.chain(t, 0, 57);
        t.is(54, "place", 0);
        t.is(11, "vector", 5, 1);
        t.is(57, "place", 5);
        for (int made = 10; made >= 1; made--) {
            t.is(made == 10 ? 54 : 6 * (made - 1), "place", 0);
            t.is(57, "place", 5);
            t.yes("get", 0, 0, 0);
        }
        t.is(10, "collect");
        t.is(0, "place", 5);
    }

    private static void sizeOfVector(Trial t) {
        for (int n = 1; n <= 4; n++) {
            t.is(n, "vector", 5, n);
            t.is(n, "size", 5);
            t.yes("set", 5, n - 1, 5);
            t.is(n, "size", 5);
        }
    }

    private static void sizeOfWeak(Trial t) {
        t.is(1, "vector", 0, 4);
        t.is(2, "weak", 1, 0);
        t.is(1, "size", 1);
        t.is(3, "table", 2);
        t.is(4, "weak", 3, 2);
        t.yes("put", 2, 0, 0);
        t.yes("put", 2, 1, 0);
        t.is(1, "size", 3);
        t.drop(0, 2);
        t.is(1, "size", 1);
        t.is(1, "size", 3);
        t.is(2, "collect");
        t.is(0, "size", 1);
        t.is(0, "size", 3);
        t.is(0, "collect");
        t.is(0, "size", 1);
    }

    private static void sizeOfTable(Trial t) {
        t.is(1, "table", 0);
        t.is(0, "size", 0);
        for (int v = 1; v <= 3; v++) {
            t.is(1 + v, "vector", v, 4);
            t.yes("put", 0, v, 5);
            t.is(v, "size", 0);
        }
        for (int v = 3; v >= 1; v--) {
            t.drop(v);
            t.is(v, "size", 0);
            t.is(1, "collect");
            t.is(v - 1, "size", 0);
        }
    }

    private static void usedByEachKind(Trial t) {
        t.is(0, "used");
        int[] cells = {3, 4, 5, 6};
        int sum = 0;
        for (int n = 1; n <= 4; n++) {
            t.is(n, "vector", 0, n);
            sum += cells[n - 1];
            t.is(sum, "used");
        }
        t.is(5, "weak", 1, 0);
        t.is(21, "used");
        t.is(6, "table", 2);
        t.is(29, "used");
        t.yes("number", 3, 4);
        t.yes("set", 0, 0, 2);
        t.yes("put", 2, 1, 2);
        t.is(29, "used");
        Trial full = t.another();
        Scenes.chain(full, 0, 60);
        full.is(60, "used");
    }

    private static void usedUntilGone(Trial t) {
        t.is(1, "vector", 0, 1);
        t.is(2, "vector", 0, 4);
        t.is(9, "used");
        t.drop(0);
        t.is(9, "used");
        t.is(2, "collect");
        t.is(0, "used");
        t.is(3, "table", 0);
        t.yes("register", 0, 1);
        t.drop(0);
        t.is(0, "collect");
        t.is(8, "used");
        t.is(1, "next", 0);
        t.drop(0);
        t.is(8, "used");
        t.is(1, "collect");
        t.is(0, "used");
    }

    private static void waitingFromNoneToEight(Trial t) {
        t.is(0, "waiting");
        for (int i = 1; i <= 8; i++) {
            t.is(i, "vector", 0, 1);
            t.yes("register", 0, i);
            t.is(i - 1, "waiting");
            t.drop(0);
            t.is(i - 1, "waiting");
            t.is(0, "collect");
            t.is(i, "waiting");
        }
        t.is(0, "collect");
        for (int left = 7; left >= 0; left--) {
            t.is(8 - left, "next", 0);
            t.is(left, "waiting");
        }
    }

    private static void collectionsOfBothOrigins(Trial t) {
        t.is(0, "collections");
        for (int i = 1; i <= 3; i++) {
            t.is(0, "collect");
            t.is(i, "collections");
        }
        int made = Scenes.loose(t, 0, 0, 60);
        t.is(3, "collections");
        t.is(made + 1, "vector", 0, 4);
        t.is(4, "collections");
        Trial full = t.another();
        Scenes.chain(full, 0, 60);
        full.is(0, "collections");
        full.is(ResurrectingHeap.FULL, "vector", 5, 1);
        full.is(1, "collections");
        full.is(ResurrectingHeap.FULL, "weak", 5, 0);
        full.is(2, "collections");
        full.is(ResurrectingHeap.FULL, "table", 5);
        full.is(3, "collections");
        full.refused("table", 6);
        full.is(3, "collections");
    }
}
