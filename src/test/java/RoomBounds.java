/** The sentences of "Terms" on when a collection is made, and on refused calls, each with a test of its own. */
final class RoomBounds {
    /** How many cells an object takes, and the call that makes it in variable 5, with a target in 0. */
    private record Making(int cells, String method, int... with) {
    }

    private static final Making[] MAKINGS = {
        new Making(3, "vector", 5, 1), new Making(4, "vector", 5, 2), new Making(5, "vector", 5, 3),
        new Making(6, "vector", 5, 4), new Making(3, "weak", 5, 0), new Making(8, "table", 5)};

    private RoomBounds() {
    }

    static void all(Sentences told) {
        told.section("Terms");
        told.test("A collection is made by collect(),", RoomBounds::madeByCollect);
        told.test("and by a call that makes an object when there are fewer cells left than the object takes:",
            RoomBounds::madeForLackOfCells);
        told.test("then the collection comes first (and stays made),", RoomBounds::collectionComesFirst);
        told.test("and if there are still too few, the call answers FULL and does nothing else (no hash is used).",
            RoomBounds::fullDoesNothingElse);
        told.test("A call that is refused changes nothing, and makes no collection.",
            RoomBounds::refusedChangesNothing);
    }

    private static void madeByCollect(Trial t) {
        Trial fresh = t.another();
        fresh.is(0, "collect");
        fresh.is(1, "collections");
        t.is(0, "collections");
        t.yes("number", 0, 3);
        t.yes("assign", 1, 0);
        t.is(1, "vector", 0, 4);
        t.is(2, "weak", 1, 0);
        t.is(3, "table", 2);
        t.yes("set", 0, 0, 1);
        t.yes("get", 3, 0, 0);
        t.yes("put", 2, 0, 1);
        t.yes("find", 4, 2, 0);
        t.yes("register", 0, 1);
        t.is(2, "kind", 0);
        t.is(0, "value", 0);
        t.is(1, "hash", 0);
        t.is(0, "place", 0);
        t.is(4, "size", 0);
        t.is(17, "used");
        t.is(0, "waiting");
        t.refused("next", 0);
        t.is(0, "collections");
        t.is(0, "collect");
        t.is(1, "collections");
        t.drop(0, 1, 3, 4);
        t.is(1, "collections");
        t.is(0, "collect");
        t.is(2, "collections");
        t.is(1, "next", 0);
        t.is(2, "collections");
    }

    private static void madeForLackOfCells(Trial t) {
        for (Making making : MAKINGS) {
            Trial enough = t.another();
            int made = Scenes.loose(enough, 0, 0, 60 - making.cells());
            enough.is(made + 1, making.method(), making.with());
            enough.is(0, "collections");
            enough.is(60, "used");
            Trial oneFewer = t.another();
            made = Scenes.loose(oneFewer, 0, 0, 61 - making.cells());
            oneFewer.is(made + 1, making.method(), making.with());
            oneFewer.is(1, "collections");
            Trial none = t.another();
            made = Scenes.loose(none, 0, 0, 60);
            none.is(made + 1, making.method(), making.with());
            none.is(1, "collections");
            none.is(6, "place", 5);
            none.is(6 + making.cells(), "used");
        }
    }

    /** A lost target, a lost key, one that is handed out, and cells that nothing holds. */
    private static int muchToCollect(Trial t) {
        t.is(1, "vector", 0, 1);
        t.is(2, "weak", 1, 0);
        t.is(3, "table", 2);
        t.yes("put", 2, 0, 1);
        t.drop(0);
        t.is(4, "vector", 0, 4);
        t.yes("register", 0, 21);
        return 4;
    }

    private static void collectionComesFirst(Trial t) {
        for (Making making : MAKINGS) {
            Trial one = t.another();
            int made = Scenes.loose(one, 0, muchToCollect(one), 40);
            one.is(60, "used");
            one.is(made + 1, making.method(), making.with());
            one.is(1, "collections");
            one.is(0, "size", 1);
            one.is(0, "size", 2);
            one.is(1, "waiting");
            one.is(0, "place", 1);
            one.is(3, "place", 2);
            one.is(17, "place", 0);
            one.is(21, "place", 5);
            one.is(21 + making.cells(), "used");
            one.is(21, "next", 3);
            one.is(11, "place", 3);
            staysMadeWhenFull(t.another(), making);
        }
    }

    /** The only object that is lost comes back: no cell is won. 3 holds a WEAK of it, 4 a TABLE with it as key. */
    private static void staysMadeWhenFull(Trial t, Making making) {
        t.is(1, "vector", 0, 1);
        t.is(2, "weak", 3, 0);
        t.is(3, "table", 4);
        t.yes("put", 4, 0, 3);
        t.yes("register", 0, 21);
        Scenes.chain(t, 3, 46);
        t.is(60, "used");
        t.is(-2, making.method(), making.with());
        t.is(1, "collections");
        t.is(0, "size", 3);
        t.is(0, "size", 4);
        t.is(1, "waiting");
        t.is(60, "used");
        t.is(21, "next", 5);
        t.is(1, "hash", 5);
    }

    private static void fullDoesNothingElse(Trial t) {
        for (Making making : MAKINGS) {
            enoughAfterTheCollection(t.another(), making);
            tooFewAfterTheCollection(t.another(), making);
            fullAgainAndAgain(t.another(), making);
        }
    }

    private static void enoughAfterTheCollection(Trial t, Making making) {
        int made = Scenes.chain(t, 0, 60 - making.cells());
        made = Scenes.loose(t, 1, made, making.cells());
        t.drop(1);
        t.is(60, "used");
        t.is(made + 1, making.method(), making.with());
        t.is(60 - making.cells(), "place", 5);
        t.is(60, "used");
        t.is(1, "collections");
    }

    /** One cell more is held; no object is so small that it could take the 2 cells that a smallest one leaves. */
    private static void tooFewAfterTheCollection(Trial t, Making making) {
        int lost = making.cells() == 3 ? 0 : making.cells() - 1;
        int held = Scenes.chain(t, 0, 61 - making.cells());
        int made = Scenes.loose(t, 1, held, lost);
        t.drop(1);
        t.yes("number", 5, 17);
        t.is(-2, making.method(), making.with());
        t.is(1, "collections");
        t.is(61 - making.cells(), "used");
        t.is(17, "value", 5);
        t.is(held, "hash", 0);
        t.yes("get", 0, 0, 0);
        t.is(made + 1, making.method(), making.with());
        t.is(2, "collections");
    }

    private static void fullAgainAndAgain(Trial t, Making making) {
        int made = Scenes.chain(t, 0, 60);
        for (int i = 1; i <= 5; i++) {
            t.is(-2, making.method(), making.with());
            t.is(i, "collections");
            t.is(60, "used");
            t.is(ResurrectingHeap.NOTHING, "kind", 5);
        }
        t.is(54, "place", 0);
        t.yes("get", 0, 0, 0);
        t.yes("get", 0, 0, 0);
        t.is(made + 1, making.method(), making.with());
        t.is(48, "place", 5);
    }

    private static void refusedChangesNothing(Trial t) {
        Scenes.oneOfEach(t);
        everyRefusal(t);
        Trial full = t.another();
        Scenes.oneOfEachAndNoCellLeft(full);
        everyRefusal(full);
        full.is(1, "collections");
        Trial nested = t.another();
        Scenes.nested(nested);
        everyRefusal(nested);
        refusalsForLackOfRoom(nested);
        Trial fullAndNested = t.another();
        Scenes.nestedAndNoCellLeft(fullAndNested);
        everyRefusal(fullAndNested);
        refusalsForLackOfRoom(fullAndNested);
        fullAndNested.is(1, "collections");
    }

    /** In Scenes.nested: a TABLE with three entries, none that waits, and eight that are registered. */
    private static void refusalsForLackOfRoom(Trial t) {
        t.yes("put", 4, 3, 1);
        t.refused("put", 4, 5, 2);
        t.is(11, "next", 0);
        t.is(10, "next", 1);
        t.refused("next", 1);
        for (int v : new int[] {0, 1, 2, 3, 4}) {
            t.yes("register", v, v);
        }
        t.yes("get", 0, 2, 2);
        t.refused("register", 0, 20);
    }

    /** One call for each reason to refuse that Scenes.oneOfEach offers. */
    private static void everyRefusal(Trial t) {
        t.refused("number", 6, 1);
        t.refused("number", 0, 1000001);
        t.refused("assign", -1, 1);
        t.refused("assign", 0, 6);
        t.refused("vector", 6, 1);
        t.refused("vector", 0, 5);
        t.refused("weak", 6, 2);
        t.refused("weak", 0, 6);
        t.refused("weak", 2, 1);
        t.refused("table", 6);
        t.refused("set", 6, 0, 1);
        t.refused("set", 2, 0, 6);
        t.refused("set", 3, 0, 5);
        t.refused("set", 2, 3, 5);
        t.refused("get", 6, 2, 0);
        t.refused("get", 1, 6, 0);
        t.refused("get", 1, 4, 0);
        t.refused("get", 1, 2, 3);
        t.refused("get", 1, 3, 1);
        t.refused("put", 6, 2, 1);
        t.refused("put", 4, 6, 1);
        t.refused("put", 4, 2, 6);
        t.refused("put", 2, 2, 1);
        t.refused("put", 4, 1, 2);
        t.refused("find", 6, 4, 2);
        t.refused("find", 1, 6, 2);
        t.refused("find", 1, 4, 6);
        t.refused("find", 1, 2, 2);
        t.refused("find", 1, 4, 1);
        t.refused("register", 6, 1);
        t.refused("register", 1, 1);
        t.refused("register", 2, 100);
        t.refused("register", 5, 1);
        t.refused("next", 6);
        t.refused("kind", 6);
        t.zero("value", 6);
        t.zero("hash", 6);
        t.refused("place", 6);
        t.refused("place", 1);
        t.refused("size", 6);
        t.refused("size", 1);
    }
}
