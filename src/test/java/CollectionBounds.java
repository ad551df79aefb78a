/** The sentences of "Terms" on the four steps of a collection, each with a test of its own. */
final class CollectionBounds {
    private CollectionBounds() {
    }

    static void all(Sentences told) {
        told.section("Terms");
        told.test("A COLLECTION does this: 1. It finds the STRONG objects: these are the objects in variables;",
            CollectionBounds::strongInVariables);
        told.test("the waiting objects;", CollectionBounds::strongByWaiting);
        told.test("the objects in fields of strong VECTORS;", CollectionBounds::strongInFields);
        told.test("the objects that are values of entries, whose keys are strong, of strong TABLES;",
            CollectionBounds::strongAsValues);
        told.test("and no others (that is, there is no smaller set of which all this is true).",
            CollectionBounds::strongAreNoOthers);
        told.test("2. Every WEAK, strong or not, whose target is an object that is not strong, "
            + "gets NOTHING as its target.", CollectionBounds::targetsAreLost);
        told.test("Every entry, of every TABLE, strong or not, whose key is not strong is removed.",
            CollectionBounds::entriesAreRemoved);
        told.test("3. Every registered object that is not strong becomes waiting with its tag,",
            CollectionBounds::registeredBecomeWaiting);
        told.test("behind all that wait already,", CollectionBounds::behindAllThatWait);
        told.test("in the order in which they were registered,", CollectionBounds::inTheOrderOfRegistering);
        told.test("and is registered no more.", CollectionBounds::registeredNoMore);
        told.test("4. KEPT are the strong objects;", CollectionBounds::keptAreTheStrong);
        told.test("the objects that wait now;", CollectionBounds::keptByWaiting);
        told.test("the objects in fields of VECTORS that are kept;", CollectionBounds::keptInFields);
        told.test("the objects that are values of entries (of those that are left) of TABLES that are kept;",
            CollectionBounds::keptAsValues);
        told.test("and no others. Objects that are not kept are GONE.", CollectionBounds::keptAreNoOthers);
        told.test("The others stay as they are, but that their places are fewer.", CollectionBounds::othersStay);
    }

    private static void strongInVariables(Trial t) {
        for (int v = 0; v < 6; v++) {
            int watcher = (v + 1) % 6;
            Trial one = t.another();
            one.is(1, "vector", v, 1);
            one.is(2, "weak", watcher, v);
            one.is(0, "collect");
            one.is(1, "size", watcher);
            one.drop(v);
            one.is(1, "collect");
            one.is(0, "size", watcher);
        }
    }

    /** Object 2 waits and is held by nothing else; the WEAK in 2 tells whether it is strong by that. */
    private static void strongByWaiting(Trial t) {
        t.is(1, "vector", 0, 1);
        t.is(2, "vector", 1, 1);
        t.yes("set", 0, 0, 1);
        t.yes("register", 0, 1);
        t.yes("register", 1, 2);
        t.drop(0, 1);
        t.is(0, "collect");
        t.is(1, "next", 0);
        t.yes("get", 1, 0, 0);
        t.is(3, "weak", 2, 1);
        t.drop(0, 1);
        t.is(1, "collect");
        t.is(1, "size", 2);
        t.is(2, "next", 0);
        t.is(2, "hash", 0);
        t.drop(0);
        t.is(1, "collect");
        t.is(0, "size", 2);
    }

    private static void strongInFields(Trial t) {
        for (int k = 0; k < 4; k++) {
            Trial one = t.another();
            one.is(1, "vector", 0, 4);
            one.is(2, "vector", 1, 1);
            one.yes("set", 0, k, 1);
            one.is(3, "weak", 2, 1);
            one.drop(1);
            one.is(0, "collect");
            one.is(1, "size", 2);
            one.yes("set", 0, k, 5);
            one.is(1, "collect");
            one.is(0, "size", 2);
        }
        longestChains(t);
    }

    /** 19 VECTORS and a WEAK of the one at the far end take all cells: the last made holds the rest, or the first. */
    private static void longestChains(Trial t) {
        Trial up = t.another();
        up.is(1, "vector", 0, 1);
        up.is(2, "weak", 2, 0);
        for (int made = 3; made <= 20; made++) {
            up.is(made, "vector", 1, 1);
            up.yes("set", 1, 0, 0);
            up.yes("assign", 0, 1);
        }
        up.drop(1);
        up.is(0, "collect");
        up.is(1, "size", 2);
        up.drop(0);
        up.is(19, "collect");
        Trial down = t.another();
        down.is(1, "vector", 0, 1);
        down.yes("assign", 1, 0);
        for (int made = 2; made <= 19; made++) {
            down.is(made, "vector", 3, 1);
            down.yes("set", 1, 0, 3);
            down.yes("assign", 1, 3);
        }
        down.is(20, "weak", 2, 3);
        down.drop(1, 3);
        down.is(0, "collect");
        down.is(1, "size", 2);
        down.drop(0);
        down.is(19, "collect");
    }

    private static void strongAsValues(Trial t) {
        for (int entry = 0; entry < 3; entry++) {
            valueOfEntry(t.another(), entry);
        }
        valueOfTableThatIsNotStrong(t.another());
        valuesThatAreKeys(t.another());
    }

    /** Three entries with the keys in 1, 2 and 3, of which the one at hand has a VECTOR as its value. */
    private static void valueOfEntry(Trial t, int entry) {
        t.is(1, "table", 0);
        for (int v = 1; v <= 3; v++) {
            t.is(1 + v, "vector", v, 1);
        }
        t.is(5, "vector", 4, 1);
        for (int v = 1; v <= 3; v++) {
            t.yes("put", 0, v, v == entry + 1 ? 4 : 0);
        }
        t.is(6, "weak", 5, 4);
        t.drop(4);
        t.is(0, "collect");
        t.is(1, "size", 5);
        t.drop(entry + 1);
        t.is(2, "collect");
        t.is(0, "size", 5);
    }

    private static void valueOfTableThatIsNotStrong(Trial t) {
        t.is(1, "table", 0);
        t.is(2, "vector", 1, 1);
        t.is(3, "vector", 2, 1);
        t.yes("put", 0, 1, 2);
        t.is(4, "weak", 3, 2);
        t.drop(0, 2);
        t.is(2, "collect");
        t.is(0, "size", 3);
    }

    /** The value under a strong key is the key of a TABLE that was made before, and so on: three rounds. */
    private static void valuesThatAreKeys(Trial t) {
        t.is(1, "table", 0);
        t.is(2, "table", 1);
        t.is(3, "vector", 2, 1);
        t.is(4, "vector", 3, 1);
        t.is(5, "vector", 4, 1);
        t.yes("put", 0, 3, 4);
        t.yes("put", 1, 2, 3);
        t.is(6, "weak", 5, 4);
        t.drop(3, 4);
        t.is(0, "collect");
        t.is(1, "size", 5);
        t.drop(2);
        t.is(3, "collect");
        t.is(0, "size", 5);
        t.is(0, "size", 0);
        t.is(0, "size", 1);
    }

    private static void strongAreNoOthers(Trial t) {
        ringOfVectors(t.another());
        keyThatItsOwnValueHolds(t.another());
        targetOfStrongWeak(t.another());
        keyOfStrongTable(t.another());
        registeredAlone(t.another());
        tableThatItsKeyShouldHold(t.another());
    }

    private static void ringOfVectors(Trial t) {
        t.is(1, "vector", 0, 2);
        t.is(2, "vector", 1, 1);
        t.yes("set", 0, 0, 1);
        t.yes("set", 0, 1, 0);
        t.yes("set", 1, 0, 0);
        t.is(3, "weak", 2, 0);
        t.drop(0);
        t.is(0, "collect");
        t.is(1, "size", 2);
        t.drop(1);
        t.is(2, "collect");
        t.is(0, "size", 2);
    }

    private static void keyThatItsOwnValueHolds(Trial t) {
        t.is(1, "table", 0);
        t.is(2, "vector", 1, 1);
        t.is(3, "vector", 2, 1);
        t.yes("set", 2, 0, 1);
        t.yes("put", 0, 1, 2);
        t.yes("put", 0, 2, 1);
        t.drop(1);
        t.is(0, "collect");
        t.is(2, "size", 0);
        t.drop(2);
        t.is(2, "collect");
        t.is(0, "size", 0);
    }

    private static void targetOfStrongWeak(Trial t) {
        t.is(1, "vector", 0, 1);
        t.is(2, "weak", 1, 0);
        t.is(3, "weak", 2, 1);
        t.drop(0, 1);
        t.is(2, "collect");
        t.is(0, "size", 2);
    }

    private static void keyOfStrongTable(Trial t) {
        t.is(1, "table", 0);
        t.is(2, "vector", 1, 1);
        t.yes("put", 0, 1, 1);
        t.is(3, "weak", 2, 1);
        t.drop(1);
        t.is(1, "collect");
        t.is(0, "size", 2);
        t.is(0, "size", 0);
    }

    private static void registeredAlone(Trial t) {
        t.is(1, "vector", 0, 1);
        t.is(2, "weak", 1, 0);
        t.yes("register", 0, 4);
        t.drop(0);
        t.is(0, "collect");
        t.is(0, "size", 1);
        t.is(1, "waiting");
    }

    private static void tableThatItsKeyShouldHold(Trial t) {
        t.is(1, "table", 0);
        t.is(2, "vector", 1, 1);
        t.yes("put", 0, 1, 1);
        t.is(3, "weak", 2, 0);
        t.drop(0);
        t.is(1, "collect");
        t.is(0, "size", 2);
    }

    private static void targetsAreLost(Trial t) {
        strongWeakOfWhatComesBack(t.another());
        weakThatComesBackWithItsTarget(t.another());
        weakThatComesBackKeepsStrongTarget(t.another());
        weakThatWaitsIsStrong(t.another());
    }

    private static void strongWeakOfWhatComesBack(Trial t) {
        t.is(1, "vector", 0, 1);
        t.is(2, "weak", 1, 0);
        t.is(3, "weak", 2, 0);
        t.yes("register", 0, 4);
        t.drop(0);
        t.is(0, "collect");
        t.is(4, "next", 0);
        for (int v = 1; v <= 2; v++) {
            t.is(0, "size", v);
            t.yes("number", 5, 1);
            t.yes("get", 5, v, 0);
            t.is(ResurrectingHeap.NOTHING, "kind", 5);
        }
    }

    private static void weakThatComesBackWithItsTarget(Trial t) {
        t.is(1, "vector", 0, 1);
        t.is(2, "weak", 1, 0);
        t.yes("set", 0, 0, 1);
        t.yes("register", 0, 4);
        t.drop(0, 1);
        t.is(0, "collect");
        t.is(4, "next", 0);
        t.yes("get", 1, 0, 0);
        t.is(2, "hash", 1);
        t.is(0, "size", 1);
    }

    private static void weakThatComesBackKeepsStrongTarget(Trial t) {
        t.is(1, "vector", 0, 1);
        t.is(2, "weak", 1, 0);
        t.yes("register", 1, 4);
        t.drop(1);
        t.is(0, "collect");
        t.is(4, "next", 1);
        t.is(1, "size", 1);
        t.yes("get", 2, 1, 0);
        t.is(1, "hash", 2);
    }

    private static void weakThatWaitsIsStrong(Trial t) {
        t.is(1, "vector", 0, 1);
        t.is(2, "weak", 1, 0);
        t.yes("register", 1, 4);
        t.drop(1);
        t.is(0, "collect");
        t.drop(0);
        t.is(1, "collect");
        t.is(4, "next", 1);
        t.is(0, "size", 1);
    }

    private static void entriesAreRemoved(Trial t) {
        for (int entry = 1; entry <= 3; entry++) {
            oneEntryOfThree(t.another(), entry);
        }
        entryOfKeyThatComesBack(t.another());
        entriesOfTableThatComesBack(t.another());
    }

    private static void oneEntryOfThree(Trial t, int lost) {
        t.is(1, "table", 0);
        for (int v = 1; v <= 3; v++) {
            t.is(1 + v, "vector", v, 1);
            t.yes("number", 4, 10 + v);
            t.yes("put", 0, v, 4);
        }
        t.drop(lost);
        t.is(3, "size", 0);
        t.is(1, "collect");
        t.is(2, "size", 0);
        for (int v = 1; v <= 3; v++) {
            if (v != lost) {
                t.yes("find", 5, 0, v);
                t.is(10 + v, "value", 5);
            }
        }
    }

    private static void entryOfKeyThatComesBack(Trial t) {
        t.is(1, "table", 0);
        t.is(2, "vector", 1, 1);
        t.yes("number", 2, 9);
        t.yes("put", 0, 1, 2);
        t.yes("register", 1, 4);
        t.drop(1);
        t.is(0, "collect");
        t.is(0, "size", 0);
        t.is(4, "next", 1);
        t.yes("find", 2, 0, 1);
        t.is(ResurrectingHeap.NOTHING, "kind", 2);
    }

    /** Its keys are a strong one, one that comes back too, and the TABLE itself. */
    private static void entriesOfTableThatComesBack(Trial t) {
        t.is(1, "table", 0);
        t.is(2, "vector", 1, 1);
        t.is(3, "vector", 2, 1);
        t.yes("number", 3, 9);
        t.yes("put", 0, 0, 3);
        t.yes("put", 0, 1, 3);
        t.yes("put", 0, 2, 3);
        t.yes("register", 0, 4);
        t.yes("register", 1, 5);
        t.drop(0, 1);
        t.is(0, "collect");
        t.is(4, "next", 0);
        t.is(5, "next", 1);
        t.is(1, "size", 0);
        t.yes("find", 4, 0, 0);
        t.is(ResurrectingHeap.NOTHING, "kind", 4);
        t.yes("find", 4, 0, 1);
        t.is(ResurrectingHeap.NOTHING, "kind", 4);
        t.yes("find", 4, 0, 2);
        t.is(9, "value", 4);
    }

    private static void registeredBecomeWaiting(Trial t) {
        t.is(1, "vector", 0, 1);
        t.is(2, "weak", 1, 0);
        t.is(3, "table", 2);
        t.is(4, "vector", 3, 1);
        t.yes("register", 0, 0);
        t.yes("register", 1, 99);
        t.yes("register", 2, 50);
        t.yes("register", 3, 51);
        t.is(0, "collect");
        t.is(0, "waiting");
        t.drop(0, 1, 2);
        t.is(0, "waiting");
        t.is(0, "collect");
        t.is(3, "waiting");
        int[] tags = {0, 99, 50};
        for (int i = 0; i < 3; i++) {
            t.is(tags[i], "next", 5);
            t.is(i + 1, "hash", 5);
        }
        t.refused("next", 5);
        t.drop(3);
        t.is(2, "collect");
        t.is(51, "next", 5);
        eightAtOnce(t.another());
        registeredInWhatWaits(t.another());
    }

    private static void eightAtOnce(Trial t) {
        for (int i = 1; i <= 8; i++) {
            t.is(i, "vector", 0, 1);
            t.yes("register", 0, i);
        }
        t.drop(0);
        t.is(0, "collect");
        t.is(8, "waiting");
        t.is(24, "used");
    }

    /** What a waiting object holds is strong, so it stays registered for as long as that one waits. */
    private static void registeredInWhatWaits(Trial t) {
        t.is(1, "vector", 0, 1);
        t.is(2, "vector", 1, 1);
        t.yes("set", 0, 0, 1);
        t.yes("register", 0, 5);
        t.drop(0);
        t.is(0, "collect");
        t.yes("register", 1, 6);
        t.drop(1);
        t.is(0, "collect");
        t.is(1, "waiting");
        t.is(5, "next", 0);
        t.drop(0);
        t.is(1, "collect");
        t.is(6, "next", 0);
    }

    /** The one that waits already was registered last and has the higher hash and the higher tag. */
    private static void behindAllThatWait(Trial t) {
        t.is(1, "vector", 0, 1);
        t.is(2, "vector", 1, 1);
        t.is(3, "vector", 2, 1);
        t.yes("register", 0, 10);
        t.yes("register", 1, 20);
        t.yes("register", 2, 30);
        t.drop(2);
        t.is(0, "collect");
        t.drop(1);
        t.is(0, "collect");
        t.drop(0);
        t.is(0, "collect");
        t.is(3, "waiting");
        for (int i = 3; i >= 1; i--) {
            t.is(10 * i, "next", 0);
            t.is(i, "hash", 0);
        }
    }

    private static void inTheOrderOfRegistering(Trial t) {
        int[] order = {3, 0, 4, 1, 2};
        int[] tags = {7, 99, 0, 50, 7};
        for (int v = 0; v < 5; v++) {
            t.is(v + 1, "vector", v, 1);
        }
        for (int i = 0; i < 5; i++) {
            t.yes("register", order[i], tags[i]);
        }
        t.drop(0, 1, 2, 3, 4);
        t.is(0, "collect");
        for (int i = 0; i < 5; i++) {
            t.is(tags[i], "next", 0);
            t.is(order[i] + 1, "hash", 0);
        }
        registeredAnewIsTheLatest(t.another());
    }

    private static void registeredAnewIsTheLatest(Trial t) {
        t.is(1, "vector", 0, 1);
        t.is(2, "vector", 1, 1);
        t.yes("register", 0, 1);
        t.yes("register", 1, 2);
        t.drop(0);
        t.is(0, "collect");
        t.is(1, "next", 0);
        t.yes("register", 0, 3);
        t.drop(0, 1);
        t.is(0, "collect");
        t.is(2, "next", 0);
        t.is(3, "next", 1);
        t.is(1, "hash", 1);
    }

    private static void registeredNoMore(Trial t) {
        t.is(1, "vector", 0, 1);
        t.yes("register", 0, 8);
        t.drop(0);
        t.is(0, "collect");
        t.is(1, "waiting");
        t.is(0, "collect");
        t.is(1, "waiting");
        t.is(8, "next", 0);
        t.drop(0);
        t.is(1, "collect");
        t.is(0, "waiting");
        t.is(0, "used");
    }

    /** The VECTOR is held by the second entry of the TABLE alone, whose key is the TABLE itself. */
    private static void keptAreTheStrong(Trial t) {
        Scenes.oneOfEach(t);
        t.drop(2);
        t.is(1, "collect");
        t.is(23, "used");
        t.is(1, "size", 3);
        t.is(2, "size", 4);
        t.yes("get", 0, 3, 0);
        t.is(1, "hash", 0);
    }

    private static void keptByWaiting(Trial t) {
        t.is(1, "vector", 0, 4);
        t.is(2, "table", 1);
        t.is(3, "weak", 2, 0);
        for (int v = 0; v < 3; v++) {
            t.yes("register", v, v);
        }
        t.drop(0, 1, 2);
        t.is(0, "collect");
        t.is(17, "used");
        t.is(0, "collect");
        t.is(17, "used");
        for (int v = 0; v < 3; v++) {
            t.is(v, "next", v);
            t.is(v + 1, "hash", v);
        }
        t.is(0, "collect");
        t.drop(0, 1, 2);
        t.is(3, "collect");
    }

    /** A VECTOR that comes back brings what its field holds, and what that holds; neither was strong. */
    private static void keptInFields(Trial t) {
        for (int k = 0; k < 4; k++) {
            Trial one = t.another();
            one.is(1, "vector", 0, 1);
            one.is(2, "vector", 1, 1);
            one.yes("set", 1, 0, 0);
            one.is(3, "vector", 2, 4);
            one.yes("set", 2, k, 1);
            one.is(4, "weak", 3, 0);
            one.yes("register", 2, 6);
            one.drop(0, 1, 2);
            one.is(0, "collect");
            one.is(15, "used");
            one.is(0, "size", 3);
            one.is(6, "next", 2);
            one.yes("get", 1, 2, k);
            one.is(2, "hash", 1);
            one.yes("get", 0, 1, 0);
            one.is(1, "hash", 0);
        }
    }

    /** A TABLE that comes back brings the value under the strong key in 1, but not the one under the key in 2. */
    private static void keptAsValues(Trial t) {
        t.is(1, "table", 0);
        t.is(2, "vector", 1, 1);
        t.is(3, "vector", 2, 1);
        t.is(4, "vector", 3, 2);
        t.is(5, "vector", 4, 3);
        t.yes("set", 3, 0, 3);
        t.yes("put", 0, 1, 3);
        t.yes("put", 0, 2, 4);
        t.is(6, "weak", 5, 3);
        t.yes("register", 0, 6);
        t.yes("register", 2, 7);
        t.drop(0, 2, 3, 4);
        t.is(1, "collect");
        t.is(8 + 3 + 3 + 4 + 3, "used");
        t.is(0, "size", 5);
        t.is(6, "next", 0);
        t.is(1, "size", 0);
        t.yes("find", 3, 0, 1);
        t.is(4, "hash", 3);
        tableInFieldOfWhatComesBack(t.another());
    }

    private static void tableInFieldOfWhatComesBack(Trial t) {
        t.is(1, "vector", 0, 1);
        t.is(2, "vector", 1, 1);
        t.is(3, "table", 2);
        t.yes("put", 2, 1, 0);
        t.is(4, "vector", 3, 1);
        t.yes("set", 3, 0, 2);
        t.yes("register", 3, 9);
        t.drop(0, 2, 3);
        t.is(0, "collect");
        t.is(17, "used");
        t.is(9, "next", 3);
        t.yes("get", 2, 3, 0);
        t.yes("find", 0, 2, 1);
        t.is(1, "hash", 0);
    }

    private static void keptAreNoOthers(Trial t) {
        holderOfWhatComesBack(t.another());
        targetOfWeakThatComesBack(t.another());
        keyOfTableThatComesBack(t.another());
        everythingGone(t.another());
    }

    private static void holderOfWhatComesBack(Trial t) {
        t.is(1, "vector", 0, 1);
        t.is(2, "vector", 1, 1);
        t.yes("set", 1, 0, 0);
        t.yes("register", 0, 3);
        t.drop(0, 1);
        t.is(1, "collect");
        t.is(3, "used");
        t.is(3, "next", 0);
        t.is(1, "hash", 0);
    }

    private static void targetOfWeakThatComesBack(Trial t) {
        t.is(1, "vector", 0, 1);
        t.is(2, "weak", 1, 0);
        t.yes("register", 1, 3);
        t.drop(0, 1);
        t.is(1, "collect");
        t.is(3, "used");
        t.is(3, "next", 1);
        t.is(0, "size", 1);
    }

    private static void keyOfTableThatComesBack(Trial t) {
        t.is(1, "table", 0);
        t.is(2, "vector", 1, 1);
        t.is(3, "vector", 2, 1);
        t.yes("put", 0, 1, 2);
        t.yes("register", 0, 3);
        t.drop(0, 1, 2);
        t.is(2, "collect");
        t.is(8, "used");
        t.is(3, "next", 0);
        t.is(0, "size", 0);
    }

    private static void everythingGone(Trial t) {
        int made = Scenes.chain(t, 0, 60);
        t.drop(0);
        t.is(60, "used");
        t.is(made, "collect");
        t.is(0, "used");
        t.is(0, "collect");
        t.is(made + 1, "table", 0);
        t.is(0, "place", 0);
    }

    /** Objects 1, 3, 5 and 7 are lost from between the others. */
    private static void othersStay(Trial t) {
        t.is(1, "vector", 5, 4);
        t.is(2, "vector", 0, 2);
        t.is(3, "vector", 5, 1);
        t.is(4, "table", 1);
        t.is(5, "vector", 5, 2);
        t.is(6, "weak", 2, 0);
        t.is(7, "vector", 5, 3);
        t.is(8, "vector", 3, 1);
        t.drop(5);
        t.yes("number", 4, -12);
        t.yes("set", 0, 0, 4);
        t.yes("set", 0, 1, 1);
        t.yes("put", 1, 2, 4);
        t.yes("register", 3, 40);
        int[] before = {6, 13, 25, 33};
        int[] after = {0, 4, 12, 15};
        int[] hashes = {2, 4, 6, 8};
        int[] sizes = {2, 1, 1, 1};
        for (int v = 0; v < 4; v++) {
            t.is(before[v], "place", v);
        }
        t.is(4, "collect");
        for (int v = 0; v < 4; v++) {
            t.is(after[v], "place", v);
            t.is(hashes[v], "hash", v);
            t.is(sizes[v], "size", v);
        }
        t.is(-12, "value", 4);
        t.yes("get", 5, 0, 0);
        t.is(-12, "value", 5);
        t.yes("get", 5, 0, 1);
        t.is(4, "hash", 5);
        t.yes("find", 5, 1, 2);
        t.is(-12, "value", 5);
        t.yes("get", 5, 2, 0);
        t.is(2, "hash", 5);
        t.refused("register", 3, 41);
        t.drop(3);
        t.is(0, "collect");
        t.is(40, "next", 3);
    }
}
