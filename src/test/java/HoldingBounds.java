/** The sentences of promises 7 to 12, each with a test of its own. */
final class HoldingBounds {
    private static final int[] NO_FIELDS = {
        -1, 4, -2, 5, 256, 65536, Integer.MIN_VALUE, Integer.MIN_VALUE + 1, Integer.MAX_VALUE};
    private static final int[] NO_TAGS = {
        -1, 100, -2, 101, 256, 65536, Integer.MIN_VALUE, Integer.MIN_VALUE + 50, Integer.MAX_VALUE};

    private static final int[] KINDS_OF_SIX = {0, 1, 4, 3, 2, 2};
    private static final int[] HASHES_OF_SIX = {0, 0, 1, 2, 3, 4};

    private HoldingBounds() {
    }

    static void all(Sentences told) {
        told.section("Promise 7: set");
        told.test("Field k of the VECTOR in variable v holds what variable w holds. Answers true;",
            HoldingBounds::setHolds);
        told.test("refused with false when v or w is not 0 .. 5,", HoldingBounds::setWithNoVariable);
        told.test("v holds no VECTOR,", HoldingBounds::setInNoVector);
        told.test("or it has no field k.", HoldingBounds::setInNoField);
        told.section("Promise 8: get");
        told.test("Variable w holds what field k of the VECTOR in variable v holds,", HoldingBounds::getField);
        told.test("or, when variable v holds a WEAK and k is 0, its target (perhaps NOTHING). Answers true;",
            HoldingBounds::getTarget);
        told.test("refused with false when v or w is not 0 .. 5,", HoldingBounds::getWithNoVariable);
        told.test("v holds neither,", HoldingBounds::getFromNeither);
        told.test("a VECTOR has no field k,", HoldingBounds::getFromNoField);
        told.test("or k is not 0 for a WEAK.", HoldingBounds::getFromWeakButNotZero);
        told.section("Promise 9: put");
        told.test("The TABLE in variable t has from now on an entry with the object in variable k as its key "
            + "and what variable w holds as its value;", HoldingBounds::putMakesEntry);
        told.test("if it has an entry with this key, its value becomes that. Answers true;",
            HoldingBounds::putChangesValue);
        told.test("refused with false when t, k or w is not 0 .. 5,", HoldingBounds::putWithNoVariable);
        told.test("t holds no TABLE,", HoldingBounds::putInNoTable);
        told.test("k holds no object,", HoldingBounds::putUnderNoObject);
        told.test("or the table has three entries with other keys.", HoldingBounds::putFourthEntry);
        told.section("Promise 10: find");
        told.test("Variable w holds the value of the entry of the TABLE in variable t whose key is the object "
            + "in variable k,", HoldingBounds::findValue);
        told.test("or NOTHING when there is no such entry. Answers true;", HoldingBounds::findNothing);
        told.test("refused with false when w, t or k is not 0 .. 5,", HoldingBounds::findWithNoVariable);
        told.test("t holds no TABLE,", HoldingBounds::findInNoTable);
        told.test("or k holds no object.", HoldingBounds::findUnderNoObject);
        told.section("Promise 11: register");
        told.test("Registers the object in variable v with that tag,", HoldingBounds::registerWithTag);
        told.test("as the latest. Answers true;", HoldingBounds::registerAsTheLatest);
        told.test("refused with false when v is not 0 .. 5,", HoldingBounds::registerNoVariable);
        told.test("v holds no object,", HoldingBounds::registerNoObject);
        told.test("tag is not 0 .. 99,", HoldingBounds::registerWithNoTag);
        told.test("the object is registered or waiting,", HoldingBounds::registerTwice);
        told.test("or 8 objects are registered or waiting.", HoldingBounds::registerNinth);
        told.section("Promise 12: next");
        told.test("The first waiting object waits no more, and variable v holds it.", HoldingBounds::nextIsHeld);
        told.test("Answers its tag (it is not registered then);", HoldingBounds::nextIsNotRegistered);
        told.test("REFUSED when v is not 0 .. 5", HoldingBounds::nextInNoVariable);
        told.test("or none waits.", HoldingBounds::nextWhenNoneWaits);
    }

    /** Variable 0 holds NOTHING, 1 the number 7, 2 a TABLE, 3 a WEAK of it, 4 a VECTOR of 1 field, 5 one of 4. */
    private static void sixValues(Trial t) {
        t.yes("number", 1, 7);
        t.is(1, "table", 2);
        t.is(2, "weak", 3, 2);
        t.is(3, "vector", 4, 1);
        t.is(4, "vector", 5, 4);
    }

    /** Variable v holds what variable w of sixValues held. */
    private static void isOneOfSix(Trial t, int v, int w) {
        t.is(KINDS_OF_SIX[w], "kind", v);
        t.is(HASHES_OF_SIX[w], "hash", v);
        t.is(w == 1 ? 7 : 0, "value", v);
    }

    private static void setHolds(Trial t) {
        for (int k = 0; k < 4; k++) {
            for (int w = 0; w < 6; w++) {
                Trial one = t.another();
                sixValues(one);
                one.yes("set", 5, k, 1);
                one.yes("set", 5, k, w);
                isOneOfSix(one, w, w);
                int into = w == 0 ? 1 : 0;
                for (int other = 0; other < 4; other++) {
                    one.yes("get", into, 5, other);
                    isOneOfSix(one, into, other == k ? w : 0);
                }
            }
        }
    }

    private static void setWithNoVariable(Trial t) {
        Scenes.oneOfEach(t);
        for (int v : Scenes.NO_VARIABLES) {
            t.refused("set", v, 0, 2);
            t.refused("set", 2, 0, v);
        }
        t.yes("set", 5, 0, 0);
        t.yes("assign", 0, 2);
        t.yes("set", 0, 2, 5);
        t.yes("get", 1, 2, 2);
        t.is(5, "hash", 1);
    }

    private static void setInNoVector(Trial t) {
        Scenes.oneOfEach(t);
        for (int v : new int[] {0, 1, 3, 4}) {
            for (int k = -1; k <= 1; k++) {
                t.refused("set", v, k, 5);
            }
        }
        t.yes("set", 2, 0, 5);
        t.yes("set", 5, 0, 5);
    }

    private static void setInNoField(Trial t) {
        for (int n = 1; n <= 4; n++) {
            t.is(n, "vector", 0, n);
            t.yes("number", 1, n);
            for (int k : NO_FIELDS) {
                t.refused("set", 0, k, 1);
            }
            for (int k = n; k <= 4; k++) {
                t.refused("set", 0, k, 1);
            }
            t.yes("set", 0, 0, 1);
            t.yes("set", 0, n - 1, 1);
        }
    }

    private static void getField(Trial t) {
        for (int n = 1; n <= 4; n++) {
            Trial one = t.another();
            one.is(1, "vector", 5, n);
            one.is(2, "table", 4);
            for (int k = 0; k < n; k++) {
                one.yes("number", 0, 20 + k);
                one.yes("set", 5, k, 0);
            }
            for (int k = n - 1; k >= 0; k--) {
                one.yes("get", k, 5, k);
                one.is(20 + k, "value", k);
                one.yes("get", 0, 5, k);
                one.is(20 + k, "value", 0);
            }
            one.yes("set", 5, 0, 4);
            one.yes("get", 0, 5, 0);
            one.is(2, "hash", 0);
            one.yes("set", 5, n - 1, 5);
            one.yes("get", 0, 5, n - 1);
            one.is(1, "hash", 0);
            one.yes("number", 3, 1);
            one.yes("set", 5, 0, 3);
            one.yes("get", 5, 5, 0);
            one.is(1, "value", 5);
        }
    }

    private static void getTarget(Trial t) {
        t.is(1, "vector", 0, 1);
        t.is(2, "weak", 5, 0);
        t.yes("get", 1, 5, 0);
        t.is(1, "hash", 1);
        t.drop(0);
        t.is(0, "collect");
        t.yes("get", 0, 5, 0);
        t.is(1, "hash", 0);
        t.drop(0, 1);
        t.is(1, "collect");
        t.yes("number", 0, 3);
        t.yes("get", 0, 5, 0);
        t.is(ResurrectingHeap.NOTHING, "kind", 0);
        t.yes("get", 5, 5, 0);
        t.is(ResurrectingHeap.NOTHING, "kind", 5);
    }

    private static void getWithNoVariable(Trial t) {
        Scenes.oneOfEach(t);
        for (int v : Scenes.NO_VARIABLES) {
            t.refused("get", v, 2, 0);
            t.refused("get", v, 3, 0);
            t.refused("get", 1, v, 0);
        }
        t.yes("get", 0, 2, 1);
        t.yes("get", 5, 0, 0);
        t.is(7, "value", 5);
        t.yes("assign", 5, 2);
        t.yes("get", 0, 5, 0);
        t.is(7, "value", 0);
    }

    private static void getFromNeither(Trial t) {
        Scenes.oneOfEach(t);
        for (int v : new int[] {0, 1, 4}) {
            for (int k = -1; k <= 1; k++) {
                t.refused("get", 2, v, k);
            }
        }
        t.yes("get", 1, 3, 0);
        t.yes("get", 1, 2, 0);
    }

    private static void getFromNoField(Trial t) {
        for (int n = 1; n <= 4; n++) {
            t.is(n, "vector", 0, n);
            t.yes("number", 1, n);
            for (int k : NO_FIELDS) {
                t.refused("get", 1, 0, k);
            }
            for (int k = n; k <= 4; k++) {
                t.refused("get", 1, 0, k);
            }
            t.yes("get", 2, 0, 0);
            t.yes("get", 2, 0, n - 1);
        }
    }

    private static void getFromWeakButNotZero(Trial t) {
        t.is(1, "vector", 0, 4);
        t.is(2, "weak", 1, 0);
        t.yes("number", 2, 6);
        for (int k : new int[] {1, 2, 3}) {
            t.refused("get", 2, 1, k);
        }
        for (int k : NO_FIELDS) {
            t.refused("get", 2, 1, k);
        }
        t.drop(0);
        t.is(1, "collect");
        t.refused("get", 2, 1, 1);
        t.refused("get", 2, 1, -1);
        t.yes("get", 2, 1, 0);
        t.is(0, "kind", 2);
    }

    private static void putMakesEntry(Trial t) {
        for (int k = 2; k < 6; k++) {
            for (int w = 0; w < 6; w++) {
                Trial one = t.another();
                sixValues(one);
                one.yes("put", 2, k, w);
                one.is(1, "size", 2);
                isOneOfSix(one, w, w);
                int into = w == 0 ? 1 : 0;
                one.yes("find", into, 2, k);
                isOneOfSix(one, into, w);
            }
        }
        threeEntries(t.another());
    }

    private static void threeEntries(Trial t) {
        sixValues(t);
        t.yes("put", 2, 3, 1);
        t.yes("put", 2, 4, 5);
        t.yes("put", 2, 2, 2);
        t.is(3, "size", 2);
        t.yes("find", 0, 2, 3);
        t.is(7, "value", 0);
        t.yes("find", 0, 2, 4);
        t.is(4, "hash", 0);
        t.yes("find", 0, 2, 2);
        t.is(1, "hash", 0);
    }

    private static void putChangesValue(Trial t) {
        t.is(1, "table", 0);
        for (int v = 1; v <= 3; v++) {
            t.is(1 + v, "vector", v, 1);
            t.yes("number", 4, v);
            t.yes("put", 0, v, 4);
            t.yes("number", 4, 10 + v);
            t.yes("put", 0, v, 4);
            t.is(v, "size", 0);
        }
        t.is(5, "weak", 5, 3);
        t.yes("put", 0, 2, 3);
        t.yes("put", 0, 1, 0);
        t.drop(4);
        t.yes("put", 0, 3, 4);
        t.is(3, "size", 0);
        t.yes("find", 4, 0, 1);
        t.is(1, "hash", 4);
        t.yes("find", 4, 0, 2);
        t.is(4, "hash", 4);
        t.yes("find", 4, 0, 3);
        t.is(0, "kind", 4);
        t.drop(3);
        t.is(0, "collect");
        t.is(1, "size", 5);
        t.yes("put", 0, 2, 4);
        t.is(1, "collect");
        t.is(0, "size", 5);
        t.is(2, "size", 0);
    }

    private static void putWithNoVariable(Trial t) {
        Scenes.oneOfEach(t);
        for (int v : Scenes.NO_VARIABLES) {
            t.refused("put", v, 2, 1);
            t.refused("put", 4, v, 1);
            t.refused("put", 4, 2, v);
            t.refused("put", 4, 5, v);
        }
        t.yes("assign", 0, 4);
        t.yes("put", 0, 5, 5);
        t.yes("assign", 5, 4);
        t.yes("put", 5, 0, 0);
        t.is(3, "size", 4);
    }

    private static void putInNoTable(Trial t) {
        Scenes.oneOfEach(t);
        for (int other : new int[] {0, 1, 2, 3, 5}) {
            t.refused("put", other, 2, 1);
            t.refused("put", other, 4, 1);
        }
        t.yes("put", 4, 5, 1);
    }

    private static void putUnderNoObject(Trial t) {
        Scenes.oneOfEach(t);
        for (int w = 0; w < 6; w++) {
            t.refused("put", 4, 0, w);
            t.refused("put", 4, 1, w);
        }
        t.yes("put", 4, 3, 0);
        t.is(3, "size", 4);
    }

    /** The keys of the three entries are held by nothing any more; no collection is made to win an entry. */
    private static void putFourthEntry(Trial t) {
        t.is(1, "table", 0);
        for (int v = 1; v <= 3; v++) {
            t.is(1 + v, "vector", v, 1);
            t.yes("put", 0, v, 0);
        }
        t.is(5, "vector", 4, 1);
        t.is(6, "weak", 5, 4);
        for (int w = 0; w < 6; w++) {
            t.refused("put", 0, 4, w);
            t.refused("put", 0, 5, w);
            t.refused("put", 0, 0, w);
        }
        t.yes("put", 0, 3, 4);
        t.drop(1, 2, 3);
        t.refused("put", 0, 4, 1);
        t.is(3, "size", 0);
        t.is(3, "collect");
        t.is(0, "size", 0);
        for (int k : new int[] {4, 5, 0}) {
            t.yes("put", 0, k, 1);
        }
        t.is(3, "size", 0);
        t.is(7, "vector", 1, 1);
        t.refused("put", 0, 1, 1);
    }

    private static void findValue(Trial t) {
        for (int into = 0; into < 6; into++) {
            for (int entry = 1; entry <= 3; entry++) {
                Trial one = t.another();
                one.is(1, "table", 0);
                for (int v = 1; v <= 3; v++) {
                    one.is(1 + v, "vector", v, 1);
                    one.yes("number", 4, 30 + v);
                    one.yes("put", 0, v, 4);
                }
                one.drop(4);
                one.yes("find", into, 0, entry);
                one.is(30 + entry, "value", into);
            }
        }
        Trial other = t.another();
        other.is(1, "table", 5);
        other.is(2, "table", 4);
        other.yes("put", 5, 4, 5);
        other.yes("put", 4, 4, 4);
        other.yes("find", 0, 5, 4);
        other.is(1, "hash", 0);
        other.yes("find", 0, 4, 4);
        other.is(2, "hash", 0);
    }

    private static void findNothing(Trial t) {
        t.is(1, "table", 0);
        t.is(2, "vector", 1, 1);
        t.is(3, "vector", 2, 1);
        t.yes("number", 3, 5);
        t.yes("find", 3, 0, 1);
        t.is(0, "kind", 3);
        t.yes("number", 3, 5);
        t.yes("put", 0, 1, 3);
        t.yes("find", 3, 0, 2);
        t.is(0, "kind", 3);
        t.is(1, "size", 0);
        t.yes("put", 0, 2, 4);
        t.yes("number", 3, 5);
        t.yes("find", 3, 0, 2);
        t.is(0, "kind", 3);
        t.is(2, "size", 0);
        t.drop(1);
        t.is(1, "collect");
        t.yes("find", 2, 0, 0);
        t.is(0, "kind", 2);
        lookAlikeIsAnotherKey(t.another());
    }

    private static void lookAlikeIsAnotherKey(Trial t) {
        t.is(1, "table", 0);
        t.is(2, "vector", 1, 2);
        t.is(3, "vector", 2, 2);
        t.yes("number", 3, 5);
        t.yes("put", 0, 2, 3);
        t.yes("find", 3, 0, 1);
        t.is(0, "kind", 3);
    }

    private static void findWithNoVariable(Trial t) {
        Scenes.oneOfEach(t);
        for (int v : Scenes.NO_VARIABLES) {
            t.refused("find", v, 4, 2);
            t.refused("find", 1, v, 2);
            t.refused("find", 1, 4, v);
        }
        t.yes("find", 5, 4, 2);
        t.is(7, "value", 5);
        t.yes("assign", 5, 4);
        t.yes("find", 0, 5, 5);
        t.is(1, "hash", 0);
        t.yes("find", 5, 4, 0);
        t.is(7, "value", 5);
        t.yes("assign", 0, 4);
        t.yes("find", 2, 0, 0);
        t.is(1, "hash", 2);
    }

    private static void findInNoTable(Trial t) {
        Scenes.oneOfEach(t);
        for (int other : new int[] {0, 1, 2, 3, 5}) {
            t.refused("find", 1, other, 2);
            t.refused("find", 1, other, 4);
        }
        t.yes("find", 1, 4, 4);
        t.is(1, "hash", 1);
    }

    private static void findUnderNoObject(Trial t) {
        Scenes.oneOfEach(t);
        for (int w = 0; w < 6; w++) {
            t.refused("find", w, 4, 0);
            t.refused("find", w, 4, 1);
        }
        t.yes("find", 1, 4, 3);
        t.is(0, "kind", 1);
    }

    private static void registerWithTag(Trial t) {
        for (int v : new int[] {2, 3, 4, 5}) {
            Trial one = t.another();
            sixValues(one);
            one.yes("register", v, 60 + v);
            one.drop(2, 3, 4, 5);
            one.is(3, "collect");
            one.is(1, "waiting");
            one.is(60 + v, "next", 0);
            one.is(HASHES_OF_SIX[v], "hash", 0);
        }
        Trial inZero = t.another();
        inZero.is(1, "vector", 0, 1);
        inZero.is(2, "vector", 1, 1);
        inZero.yes("register", 0, 5);
        inZero.yes("register", 1, 5);
        inZero.drop(0, 1);
        inZero.is(0, "collect");
        inZero.is(5, "next", 0);
        inZero.is(5, "next", 0);
    }

    private static void registerAsTheLatest(Trial t) {
        t.is(1, "vector", 0, 1);
        t.is(2, "vector", 1, 1);
        t.is(3, "vector", 2, 1);
        t.yes("register", 2, 10);
        t.yes("register", 0, 20);
        t.yes("register", 1, 5);
        t.drop(0, 1, 2);
        t.is(0, "collect");
        t.is(10, "next", 0);
        t.yes("register", 0, 1);
        t.is(4, "vector", 1, 1);
        t.yes("register", 1, 0);
        t.drop(0, 1);
        t.is(0, "collect");
        int[] tags = {20, 5, 1, 0};
        int[] hashes = {1, 2, 3, 4};
        for (int i = 0; i < 4; i++) {
            t.is(tags[i], "next", 0);
            t.is(hashes[i], "hash", 0);
        }
    }

    private static void registerNoVariable(Trial t) {
        Scenes.oneOfEach(t);
        for (int v : Scenes.NO_VARIABLES) {
            t.refused("register", v, 3);
        }
        t.is(7, "vector", 0, 1);
        t.is(8, "vector", 5, 1);
        t.yes("register", 0, 3);
        t.yes("register", 5, 3);
    }

    private static void registerNoObject(Trial t) {
        Scenes.oneOfEach(t);
        for (int tag : new int[] {0, 50, 99}) {
            t.refused("register", 0, tag);
            t.refused("register", 1, tag);
        }
        for (int v = 2; v <= 4; v++) {
            t.yes("register", v, 50);
        }
    }

    private static void registerWithNoTag(Trial t) {
        Scenes.oneOfEach(t);
        for (int tag : NO_TAGS) {
            t.refused("register", 2, tag);
        }
        t.yes("register", 2, 0);
        t.yes("register", 3, 99);
        t.drop(2, 3, 4);
        t.is(2, "collect");
        t.is(11, "next", 0);
        t.is(0, "next", 0);
        t.is(99, "next", 0);
    }

    private static void registerTwice(Trial t) {
        t.is(1, "vector", 0, 1);
        t.is(2, "vector", 1, 1);
        t.yes("set", 0, 0, 1);
        t.yes("register", 0, 10);
        t.yes("register", 1, 11);
        t.yes("assign", 5, 1);
        t.refused("register", 0, 10);
        t.refused("register", 0, 12);
        t.refused("register", 5, 12);
        t.drop(0, 1, 5);
        t.is(0, "collect");
        t.is(10, "next", 0);
        t.yes("get", 1, 0, 0);
        t.refused("register", 1, 11);
        t.refused("register", 1, 13);
        t.is(0, "collect");
        t.refused("register", 1, 13);
        t.is(11, "next", 2);
        t.yes("register", 1, 13);
        t.refused("register", 2, 14);
        t.yes("register", 0, 14);
    }

    /** Seven of the eight are held by nothing; no collection is made to hand them out. */
    private static void registerNinth(Trial t) {
        for (int i = 1; i <= 8; i++) {
            t.is(i, "vector", 0, 1);
            t.yes("register", 0, i);
        }
        t.is(9, "vector", 1, 1);
        t.refused("register", 1, 9);
        t.is(0, "collect");
        t.is(7, "waiting");
        t.refused("register", 1, 9);
        t.is(1, "next", 2);
        t.yes("register", 1, 9);
        t.refused("register", 2, 10);
        t.drop(0, 1);
        t.is(0, "collect");
        t.is(8, "waiting");
        t.refused("register", 2, 10);
        t.is(2, "next", 3);
        t.yes("register", 2, 10);
        t.refused("register", 3, 11);
        t.is(3, "next", 4);
        t.yes("register", 3, 11);
        t.refused("register", 4, 12);
    }

    private static void nextIsHeld(Trial t) {
        for (int v = 0; v < 6; v++) {
            Trial one = t.another();
            Scenes.oneOfEach(one);
            one.is(11, "next", v);
            one.is(4, "hash", v);
            one.is(ResurrectingHeap.VECTOR, "kind", v);
            one.is(2, "size", v);
            one.is(16, "place", v);
            one.is(0, "waiting");
        }
        Trial several = t.another();
        for (int v = 0; v < 3; v++) {
            several.is(v + 1, "vector", v, 1);
            several.yes("register", v, 70 + v);
        }
        several.drop(0, 1, 2);
        several.is(0, "collect");
        for (int i = 0; i < 3; i++) {
            several.is(70 + i, "next", 5);
            several.is(i + 1, "hash", 5);
            several.is(2 - i, "waiting");
        }
        several.is(2, "collect");
        several.is(3, "used");
    }

    private static void nextIsNotRegistered(Trial t) {
        for (int tag : new int[] {0, 1, 98, 99}) {
            Trial one = t.another();
            one.is(1, "vector", 0, 1);
            one.yes("register", 0, tag);
            one.drop(0);
            one.is(0, "collect");
            one.is(tag, "next", 0);
            one.drop(0);
            one.is(1, "collect");
            one.is(0, "waiting");
        }
        t.is(1, "vector", 0, 1);
        t.yes("register", 0, 8);
        t.drop(0);
        t.is(0, "collect");
        t.is(8, "next", 0);
        t.yes("register", 0, 9);
        t.drop(0);
        t.is(0, "collect");
        t.is(9, "next", 0);
    }

    private static void nextInNoVariable(Trial t) {
        Scenes.oneOfEach(t);
        for (int v : Scenes.NO_VARIABLES) {
            t.refused("next", v);
        }
        t.is(1, "waiting");
        t.is(11, "next", 0);
        t.drop(5);
        t.is(1, "collect");
        t.is(12, "next", 5);
    }

    /** One is registered and held by nothing; no collection is made to hand it out. */
    private static void nextWhenNoneWaits(Trial t) {
        for (int v = 0; v < 6; v++) {
            t.refused("next", v);
        }
        t.yes("number", 0, 4);
        t.refused("next", 0);
        t.is(1, "vector", 1, 1);
        t.yes("register", 1, 3);
        t.refused("next", 0);
        t.drop(1);
        t.refused("next", 0);
        t.is(0, "collect");
        t.is(3, "next", 0);
        t.refused("next", 0);
        t.refused("next", 1);
        t.is(1, "hash", 0);
    }
}
