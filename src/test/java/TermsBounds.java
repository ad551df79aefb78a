/** The sentences of "What it is" and of "Terms", up to the collection, each with a test of its own. */
final class TermsBounds {
    private TermsBounds() {
    }

    static void all(Sentences told) {
        told.section("What it is");
        told.test("A heap whose collector can be seen at work: weak references that lose their targets,",
            TermsBounds::weakLosesItsTarget);
        told.test("tables whose entries last as long as their keys,", TermsBounds::entryLastsAsLongAsItsKey);
        told.test("objects that are handed out once more when nothing holds them any longer,",
            TermsBounds::objectIsHandedOutOnce);
        told.test("and places that change while identity does not.", TermsBounds::placeChangesIdentityDoesNot);
        told.test("An object is used for at most 512 calls after it has been made; what later calls answer is free.",
            TermsBounds::all512Calls);
        told.section("Terms");
        told.test("A VALUE is NOTHING, a NUMBER from -1000000 to 1000000, or an OBJECT.", TermsBounds::values);
        told.test("VARIABLES 0 .. 5 each hold a value, at first NOTHING.", TermsBounds::variables);
        told.test("Objects are of three KINDS.", TermsBounds::kinds);
        told.test("A VECTOR has 1 to 4 FIELDS,", TermsBounds::vectorHasOneToFourFields);
        told.test("numbered from 0, each of which holds a value.", TermsBounds::fieldsAreNumberedFromZero);
        told.test("A WEAK has a TARGET, which is an object or NOTHING.", TermsBounds::targetIsObjectOrNothing);
        told.test("A TABLE has at most 3 ENTRIES,", TermsBounds::tableHasAtMostThreeEntries);
        told.test("each with a KEY, which is an object, and a value;", TermsBounds::keyIsObject);
        told.test("no two entries of a table have the same key.", TermsBounds::noTwoEntriesWithTheSameKey);
        told.test("Objects are made one after the other; the HASH of an object is 1 for the first that is made, "
            + "2 for the next, and so on, and never changes.", TermsBounds::hashes);
        told.test("THE HEAP has 60 CELLS.", TermsBounds::sixtyCells);
        told.test("A VECTOR with n fields takes 2 + n cells,", TermsBounds::cellsOfVector);
        told.test("a WEAK 3,", TermsBounds::cellsOfWeak);
        told.test("a TABLE 8.", TermsBounds::cellsOfTable);
        told.test("The objects lie in it one behind the other, without gaps, from the beginning, "
            + "in the order in which they were made; the PLACE of an object is the number of cells before it.",
            TermsBounds::places);
        told.test("An object may be REGISTERED with a TAG, and it may be WAITING with a tag; never both.",
            TermsBounds::registeredOrWaitingNeverBoth);
        told.test("Waiting objects stand in a row.", TermsBounds::waitingObjectsStandInRow);
        told.test("At most 8 objects are registered or waiting.", TermsBounds::atMostEight);
    }

    private static void weakLosesItsTarget(Trial t) {
        t.is(1, "vector", 0, 1);
        t.is(2, "weak", 1, 0);
        t.drop(0);
        t.is(1, "size", 1);
        t.is(1, "collect");
        t.is(0, "size", 1);
    }

    private static void entryLastsAsLongAsItsKey(Trial t) {
        t.is(1, "table", 0);
        t.is(2, "vector", 1, 1);
        t.yes("put", 0, 1, 2);
        t.is(0, "collect");
        t.is(1, "size", 0);
        t.drop(1);
        t.is(1, "collect");
        t.is(0, "size", 0);
    }

    private static void objectIsHandedOutOnce(Trial t) {
        t.is(1, "vector", 0, 1);
        t.yes("register", 0, 5);
        t.drop(0);
        t.is(0, "collect");
        t.is(5, "next", 0);
        t.is(1, "hash", 0);
        t.drop(0);
        t.is(1, "collect");
        t.refused("next", 0);
    }

    private static void placeChangesIdentityDoesNot(Trial t) {
        t.is(1, "vector", 0, 4);
        t.is(2, "vector", 1, 1);
        t.is(6, "place", 1);
        t.drop(0);
        t.is(1, "collect");
        t.is(0, "place", 1);
        t.is(2, "hash", 1);
    }

    private static void all512Calls(Trial t) {
        for (int made = 1; made <= 512; made++) {
            t.is(made, "vector", 0, 1);
        }
        collecting511Times(t.another());
        comingBack127Times(t.another());
        Trial full = t.another();
        fullUntilTheLastCall(full);
        callsBeyondThe512th(full);
    }

    private static void collecting511Times(Trial t) {
        for (int i = 1; i < 512; i++) {
            t.is(0, "collect");
        }
        t.is(511, "collections");
    }

    private static void comingBack127Times(Trial t) {
        t.is(1, "vector", 0, 1);
        for (int round = 0; round < 127; round++) {
            t.yes("register", 0, round % 100);
            t.drop(0);
            t.is(0, "collect");
            t.is(round % 100, "next", 0);
        }
        t.is(1, "hash", 0);
        t.is(3, "used");
        t.is(127, "collections");
    }

    private static void fullUntilTheLastCall(Trial t) {
        int made = Scenes.chain(t, 0, 60);
        for (int collections = 1; t.callsSoFar() < 510; collections++) {
            t.is(-2, "vector", 5, 1);
            t.is(collections, "collections");
        }
        t.drop(0);
        t.is(made + 1, "vector", 5, 1);
    }

    private static void callsBeyondThe512th(Trial t) {
        for (int i = 0; i < 1000; i++) {
            t.free("vector", i % 7, i % 6);
            t.free("weak", i % 5, i % 7);
            t.free("table", i % 11);
            t.free("put", i % 6, i % 5, i % 3);
            t.free("register", i % 6, i % 100);
            t.free("set", i % 6, i % 4, i % 5);
            t.free("next", i % 6);
            t.free("collect");
        }
    }

    private static void values(Trial t) {
        t.is(1, "vector", 0, 4);
        t.yes("number", 1, -1000000);
        t.yes("number", 2, 1000000);
        t.refused("number", 1, -1000001);
        t.refused("number", 2, 1000001);
        for (int k = 0; k < 4; k++) {
            t.yes("set", 0, k, new int[] {1, 2, 3, 0}[k]);
        }
        t.yes("get", 4, 0, 0);
        t.is(-1000000, "value", 4);
        t.yes("get", 4, 0, 1);
        t.is(1000000, "value", 4);
        t.yes("get", 4, 0, 2);
        t.is(ResurrectingHeap.NOTHING, "kind", 4);
        t.yes("get", 4, 0, 3);
        t.is(1, "hash", 4);
    }

    private static void variables(Trial t) {
        for (int v = 0; v < 6; v++) {
            t.is(ResurrectingHeap.NOTHING, "kind", v);
        }
        for (int v = 0; v < 6; v++) {
            t.yes("number", v, 10 + v);
        }
        t.refused("number", -1, 3);
        t.refused("number", 6, 3);
        for (int v = 0; v < 6; v++) {
            t.is(10 + v, "value", v);
        }
    }

    private static void kinds(Trial t) {
        t.is(1, "vector", 0, 1);
        t.is(2, "weak", 1, 0);
        t.is(3, "table", 2);
        t.is(ResurrectingHeap.VECTOR, "kind", 0);
        t.is(ResurrectingHeap.WEAK, "kind", 1);
        t.is(ResurrectingHeap.TABLE, "kind", 2);
    }

    private static void vectorHasOneToFourFields(Trial t) {
        t.refused("vector", 0, 0);
        for (int n = 1; n <= 4; n++) {
            t.is(n, "vector", 0, n);
            t.is(n, "size", 0);
        }
        t.refused("vector", 0, 5);
    }

    private static void fieldsAreNumberedFromZero(Trial t) {
        for (int n = 1; n <= 4; n++) {
            t.is(n, "vector", 0, n);
            for (int k = 0; k < n; k++) {
                t.yes("number", 1, 10 * n + k);
                t.yes("set", 0, k, 1);
            }
            for (int k = 0; k < n; k++) {
                t.yes("get", 1, 0, k);
                t.is(10 * n + k, "value", 1);
            }
            t.refused("set", 0, -1, 1);
            t.refused("set", 0, n, 1);
            t.refused("get", 1, 0, -1);
            t.refused("get", 1, 0, n);
        }
    }

    private static void targetIsObjectOrNothing(Trial t) {
        t.yes("number", 0, 5);
        t.refused("weak", 1, 0);
        t.refused("weak", 1, 2);
        t.is(1, "vector", 0, 1);
        t.is(2, "weak", 1, 0);
        t.is(3, "table", 2);
        t.is(4, "weak", 3, 2);
        t.is(5, "weak", 4, 3);
        int[] targets = {0, 1, 0, 3, 4};
        for (int v : new int[] {1, 3, 4}) {
            t.is(1, "size", v);
            t.yes("get", 5, v, 0);
            t.is(targets[v], "hash", 5);
        }
        t.drop(0, 2, 3, 5);
        t.is(3, "collect");
        for (int v : new int[] {1, 4}) {
            t.is(0, "size", v);
            t.yes("number", 5, 1);
            t.yes("get", 5, v, 0);
            t.is(ResurrectingHeap.NOTHING, "kind", 5);
        }
    }

    private static void tableHasAtMostThreeEntries(Trial t) {
        t.is(1, "table", 0);
        t.is(0, "size", 0);
        for (int v = 1; v <= 3; v++) {
            t.is(1 + v, "vector", v, 1);
            t.yes("put", 0, v, 5);
            t.is(v, "size", 0);
        }
        t.is(5, "vector", 4, 1);
        t.refused("put", 0, 4, 5);
        t.is(3, "size", 0);
        t.drop(2);
        t.is(1, "collect");
        t.yes("put", 0, 4, 5);
        t.is(3, "size", 0);
        t.is(6, "vector", 2, 1);
        t.refused("put", 0, 2, 5);
    }

    private static void keyIsObject(Trial t) {
        t.is(1, "table", 0);
        t.is(2, "vector", 1, 1);
        t.is(3, "weak", 2, 1);
        t.yes("number", 3, 0);
        t.refused("put", 0, 3, 1);
        t.refused("put", 0, 4, 1);
        t.yes("put", 0, 0, 3);
        t.yes("put", 0, 1, 4);
        t.yes("put", 0, 2, 1);
        t.yes("find", 5, 0, 0);
        t.is(ResurrectingHeap.NUMBER, "kind", 5);
        t.yes("find", 5, 0, 1);
        t.is(ResurrectingHeap.NOTHING, "kind", 5);
        t.yes("find", 5, 0, 2);
        t.is(2, "hash", 5);
    }

    private static void noTwoEntriesWithTheSameKey(Trial t) {
        t.is(1, "table", 0);
        t.is(2, "vector", 1, 1);
        t.is(3, "vector", 2, 1);
        t.is(4, "vector", 3, 1);
        for (int v = 1; v <= 3; v++) {
            t.yes("number", 4, v);
            t.yes("put", 0, v, 4);
            t.yes("assign", 5, v);
            t.yes("number", 4, 10 + v);
            t.yes("put", 0, 5, 4);
            t.is(v, "size", 0);
        }
        for (int v = 1; v <= 3; v++) {
            t.yes("number", 4, 20 + v);
            t.yes("put", 0, v, 4);
            t.is(3, "size", 0);
            for (int other = 1; other <= 3; other++) {
                t.yes("find", 5, 0, other);
                t.is(other <= v ? 20 + other : 10 + other, "value", 5);
            }
        }
        t.drop(1);
        t.is(1, "collect");
        t.is(2, "size", 0);
    }

    private static void hashes(Trial t) {
        t.is(1, "vector", 0, 4);
        t.is(2, "weak", 1, 0);
        t.is(3, "table", 2);
        t.drop(0);
        t.is(1, "collect");
        t.is(2, "hash", 1);
        t.is(3, "hash", 2);
        t.is(4, "vector", 0, 1);
        t.refused("vector", 3, 5);
        t.is(5, "table", 3);
        t.yes("register", 2, 1);
        t.drop(2);
        t.is(0, "collect");
        t.is(6, "weak", 4, 3);
        t.is(1, "next", 2);
        t.is(3, "hash", 2);
        t.is(4, "hash", 0);
    }

    private static void sixtyCells(Trial t) {
        Scenes.chain(t, 0, 57);
        t.is(57, "used");
        t.is(11, "weak", 5, 0);
        t.is(60, "used");
        t.is(0, "collections");
        t.is(-2, "vector", 4, 1);
        t.is(-2, "weak", 4, 0);
        t.is(-2, "table", 4);
        t.is(60, "used");
        Trial loose = t.another();
        Scenes.loose(loose, 0, 0, 60);
        loose.is(60, "used");
        loose.is(0, "collections");
        loose.is(11, "vector", 0, 1);
        loose.is(1, "collections");
        loose.is(9, "used");
        Trial noCell61 = t.another();
        Scenes.chain(noCell61, 0, 58);
        noCell61.is(-2, "vector", 4, 1);
        noCell61.is(-2, "weak", 4, 0);
        noCell61.is(58, "used");
    }

    private static void cellsOfVector(Trial t) {
        int cells = 0;
        for (int n = 1; n <= 4; n++) {
            t.is(n, "vector", 0, n);
            t.is(cells, "place", 0);
            cells += 2 + n;
            t.is(cells, "used");
        }
        for (int n = 1; n <= 4; n++) {
            exactlyEnough(t.another(), 2 + n, "vector", 5, n);
        }
    }

    private static void cellsOfWeak(Trial t) {
        t.is(1, "table", 0);
        t.is(2, "weak", 1, 0);
        t.is(11, "used");
        t.is(3, "weak", 1, 1);
        t.is(14, "used");
        t.drop(0);
        t.is(2, "collect");
        t.is(0, "size", 1);
        t.is(3, "used");
        exactlyEnough(t.another(), 3, "weak", 5, 0);
    }

    private static void cellsOfTable(Trial t) {
        t.is(1, "table", 0);
        t.is(8, "used");
        t.yes("put", 0, 0, 0);
        t.is(8, "used");
        t.is(2, "table", 1);
        t.is(8, "place", 1);
        t.is(16, "used");
        exactlyEnough(t.another(), 8, "table", 5);
    }

    /** With all but so many cells held the object is made; with one cell fewer it is not. */
    private static void exactlyEnough(Trial t, int cells, String method, int... with) {
        int made = Scenes.chain(t, 0, 60 - cells);
        t.is(made + 1, method, with);
        t.is(60 - cells, "place", 5);
        t.is(60, "used");
        t.is(0, "collections");
        Trial oneFewer = t.another();
        Scenes.chain(oneFewer, 0, 61 - cells);
        oneFewer.is(-2, method, with);
        oneFewer.is(1, "collections");
    }

    private static void places(Trial t) {
        t.is(1, "vector", 3, 2);
        t.is(2, "weak", 1, 3);
        t.is(3, "table", 5);
        t.is(4, "vector", 0, 4);
        t.is(5, "vector", 2, 1);
        int[] places = {15, 4, 21, 0, -1, 7};
        for (int v = 0; v < 6; v++) {
            t.is(places[v], "place", v);
        }
        t.drop(1, 0);
        int[] stillThere = {-1, -1, 21, 0, -1, 7};
        for (int v = 0; v < 6; v++) {
            t.is(stillThere[v], "place", v);
        }
        t.is(2, "collect");
        int[] closed = {-1, -1, 12, 0, -1, 4};
        for (int v = 0; v < 6; v++) {
            t.is(closed[v], "place", v);
        }
        t.is(6, "vector", 4, 3);
        t.is(15, "place", 4);
        t.drop(3);
        t.is(1, "collect");
        t.is(0, "place", 5);
        t.is(8, "place", 2);
        t.is(11, "place", 4);
    }

    private static void registeredOrWaitingNeverBoth(Trial t) {
        t.is(1, "vector", 0, 1);
        t.is(2, "vector", 1, 1);
        t.yes("set", 0, 0, 1);
        t.yes("register", 0, 30);
        t.yes("register", 1, 31);
        t.refused("register", 0, 32);
        t.is(0, "waiting");
        t.drop(0, 1);
        t.is(0, "collect");
        t.is(2, "waiting");
        t.is(30, "next", 0);
        t.yes("get", 1, 0, 0);
        t.refused("register", 1, 33);
        t.is(31, "next", 2);
        t.is(2, "hash", 2);
        t.yes("set", 0, 0, 5);
        t.drop(1, 2);
        t.is(1, "collect");
        t.is(0, "waiting");
        t.yes("register", 0, 34);
        t.refused("register", 0, 34);
        t.refused("next", 2);
    }

    private static void waitingObjectsStandInRow(Trial t) {
        for (int i = 0; i < 8; i++) {
            t.is(i + 1, "vector", 0, 1);
            t.yes("register", 0, 90 + i);
        }
        t.drop(0);
        t.is(0, "collect");
        for (int i = 0; i < 8; i++) {
            t.is(8 - i, "waiting");
            t.is(90 + i, "next", 0);
            t.is(i + 1, "hash", 0);
        }
        t.is(0, "waiting");
        t.refused("next", 0);
    }

    private static void atMostEight(Trial t) {
        for (int i = 1; i <= 8; i++) {
            t.is(i, "vector", 0, 1);
            t.yes("register", 0, i);
        }
        t.is(9, "vector", 1, 1);
        t.refused("register", 1, 9);
        t.is(0, "collect");
        t.is(7, "waiting");
        t.refused("register", 1, 9);
        t.is(1, "next", 2);
        t.yes("register", 1, 9);
        t.refused("register", 2, 10);
        t.drop(0, 1);
        t.is(0, "collect");
        t.is(8, "waiting");
        t.refused("register", 2, 10);
        for (int tag = 2; tag <= 9; tag++) {
            t.is(tag, "next", 0);
        }
        t.yes("register", 2, 10);
        t.is(0, "waiting");
    }
}
