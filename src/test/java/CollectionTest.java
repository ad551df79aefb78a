/** What the four steps of a collection do to objects that hold each other. */
public final class CollectionTest {
    private static final Due DUE = new Due();

    public static void main(String[] args) {
        ringsAreNotStrong();
        chainsAreStrong();
        waitingObjectsAreStrong();
        entriesLastAsLongAsTheirKeys();
        entriesFeedEntries();
        entryHeldByItsOwnValue();
        weaksLoseWhatComesBack();
        weaksThatComeBackKeepStrongTargets();
        tablesThatComeBack();
        whatComesBackBringsItsOwn();
        rowOfThoseThatWait();
        collectionForLackOfCellsHandsOut();
        DUE.end();
    }

    private static void drop(ResurrectingHeap x, int... variables) {
        for (int v : variables) {
            DUE.yes("assign(" + v + ", -1)", x.assign(v, -1));
        }
    }

    private static void ringsAreNotStrong() {
        DUE.promise("rings are not strong");
        ResurrectingHeap x = new ResurrectingHeap();
        x.vector(0, 1);
        x.vector(1, 1);
        x.set(0, 0, 1);
        x.set(1, 0, 0);
        x.table(2);
        x.put(2, 2, 2);
        drop(x, 1);
        DUE.is("collect(), the ring is held", x.collect(), 0);
        drop(x, 0, 2);
        DUE.is("collect()", x.collect(), 3);
        DUE.is("used()", x.used(), 0);
    }

    private static void chainsAreStrong() {
        DUE.promise("long chains, made from either end");
        ResurrectingHeap x = new ResurrectingHeap();
        x.vector(0, 1);
        for (int i = 1; i < 20; i++) {
            x.vector(1, 1);
            x.set(1, 0, 0);
            x.assign(0, 1);
        }
        drop(x, 1);
        DUE.is("used()", x.used(), 60);
        DUE.is("collect(), the last made holds all", x.collect(), 0);
        ResurrectingHeap y = new ResurrectingHeap();
        y.vector(0, 1);
        y.assign(1, 0);
        for (int i = 1; i < 20; i++) {
            y.vector(2, 1);
            y.set(1, 0, 2);
            y.assign(1, 2);
        }
        drop(y, 1, 2);
        DUE.is("collect(), the first made holds all", y.collect(), 0);
        drop(y, 0);
        DUE.is("collect()", y.collect(), 20);
    }

    private static void waitingObjectsAreStrong() {
        DUE.promise("waiting objects are strong");
        ResurrectingHeap x = new ResurrectingHeap();
        x.vector(0, 1);
        x.vector(1, 1);
        x.set(0, 0, 1);
        x.weak(2, 1);
        x.register(0, 3);
        drop(x, 0, 1);
        DUE.is("collect()", x.collect(), 0);
        DUE.is("size(2), what it holds was not strong", x.size(2), 0);
        DUE.is("collect(), it waits on", x.collect(), 0);
        DUE.is("next(0)", x.next(0), 3);
        x.get(1, 0, 0);
        DUE.is("hash(1)", x.hash(1), 2);
        registeredInWaiting();
    }

    private static void registeredInWaiting() {
        ResurrectingHeap x = new ResurrectingHeap();
        x.vector(0, 1);
        x.register(0, 5);
        x.vector(1, 1);
        x.set(0, 0, 1);
        drop(x, 0);
        x.collect();
        x.register(1, 6);
        x.weak(2, 1);
        drop(x, 1);
        DUE.is("collect()", x.collect(), 0);
        DUE.is("waiting(), what a waiting object holds is strong", x.waiting(), 1);
        DUE.is("size(2)", x.size(2), 1);
        x.next(5);
        drop(x, 5);
        DUE.is("collect()", x.collect(), 1);
        DUE.is("waiting()", x.waiting(), 1);
        DUE.is("size(2)", x.size(2), 0);
        DUE.is("next(5)", x.next(5), 6);
    }

    private static void entriesLastAsLongAsTheirKeys() {
        DUE.promise("entries last as long as their keys");
        ResurrectingHeap x = new ResurrectingHeap();
        x.table(0);
        x.vector(1, 1);
        x.vector(2, 1);
        x.vector(3, 1);
        x.number(4, 4);
        x.put(0, 1, 4);
        x.put(0, 2, 3);
        x.put(0, 3, 0);
        drop(x, 1);
        DUE.is("collect(), the first key", x.collect(), 1);
        DUE.is("size(0)", x.size(0), 2);
        x.find(5, 0, 2);
        DUE.is("hash(5)", x.hash(5), 4);
        x.find(5, 0, 3);
        DUE.is("hash(5)", x.hash(5), 1);
        x.vector(1, 1);
        DUE.yes("put(0, 1, 4), there is room again", x.put(0, 1, 4));
        DUE.is("size(0)", x.size(0), 3);
        drop(x, 3);
        DUE.is("collect(), a key that is a strong value", x.collect(), 0);
        drop(x, 2);
        DUE.is("collect()", x.collect(), 2);
        DUE.is("size(0)", x.size(0), 1);
        x.find(5, 0, 1);
        DUE.is("value(5)", x.value(5), 4);
        x.assign(2, 0);
        drop(x, 0, 2);
        DUE.is("collect(), a key does not hold its table", x.collect(), 1);
    }

    private static void entriesFeedEntries() {
        DUE.promise("values that are keys in tables made before");
        ResurrectingHeap x = new ResurrectingHeap();
        x.table(0);
        x.table(1);
        x.vector(2, 1);
        x.vector(3, 1);
        x.vector(4, 1);
        x.put(0, 3, 4);
        x.put(1, 2, 3);
        x.weak(5, 4);
        drop(x, 3, 4);
        DUE.is("collect()", x.collect(), 0);
        DUE.is("size(5)", x.size(5), 1);
        DUE.is("size(0)", x.size(0), 1);
        drop(x, 1);
        DUE.is("collect(), without the table between", x.collect(), 3);
        DUE.is("size(5)", x.size(5), 0);
        DUE.is("size(0)", x.size(0), 0);
    }

    private static void entryHeldByItsOwnValue() {
        DUE.promise("a key that only its own value holds");
        ResurrectingHeap x = new ResurrectingHeap();
        x.table(0);
        x.vector(1, 1);
        x.vector(2, 1);
        x.set(2, 0, 1);
        x.put(0, 1, 2);
        drop(x, 1);
        DUE.is("collect()", x.collect(), 0);
        drop(x, 2);
        DUE.is("collect()", x.collect(), 2);
        DUE.is("size(0)", x.size(0), 0);
    }

    private static void weaksLoseWhatComesBack() {
        DUE.promise("a WEAK loses what is handed out once more");
        ResurrectingHeap x = new ResurrectingHeap();
        x.vector(0, 2);
        x.weak(1, 0);
        x.set(0, 0, 1);
        x.weak(2, 0);
        x.weak(3, 1);
        x.register(0, 9);
        drop(x, 0, 1);
        DUE.is("collect()", x.collect(), 0);
        DUE.is("size(2), a strong WEAK", x.size(2), 0);
        DUE.is("size(3), of a WEAK that is kept, not strong", x.size(3), 0);
        DUE.is("next(0)", x.next(0), 9);
        x.get(1, 0, 0);
        DUE.is("hash(1)", x.hash(1), 2);
        DUE.is("size(1), a WEAK that is not strong", x.size(1), 0);
        weakRegistered();
    }

    private static void weakRegistered() {
        ResurrectingHeap x = new ResurrectingHeap();
        x.vector(0, 1);
        x.weak(1, 0);
        x.register(1, 9);
        drop(x, 0, 1);
        DUE.is("collect(), a WEAK holds nothing, not even when it waits", x.collect(), 1);
        x.next(1);
        DUE.is("size(1)", x.size(1), 0);
    }

    private static void weaksThatComeBackKeepStrongTargets() {
        DUE.promise("a WEAK that is handed out keeps a strong target");
        ResurrectingHeap x = new ResurrectingHeap();
        x.vector(0, 1);
        x.weak(1, 0);
        x.register(1, 2);
        drop(x, 1);
        x.collect();
        DUE.is("next(1)", x.next(1), 2);
        DUE.is("size(1)", x.size(1), 1);
        x.get(2, 1, 0);
        DUE.is("hash(2)", x.hash(2), 1);
    }

    private static void tablesThatComeBack() {
        DUE.promise("a TABLE that is handed out once more");
        ResurrectingHeap x = new ResurrectingHeap();
        x.table(0);
        x.vector(1, 1);
        x.vector(2, 1);
        x.vector(3, 1);
        x.vector(4, 1);
        x.put(0, 1, 2);
        x.put(0, 3, 4);
        x.weak(5, 2);
        x.register(0, 1);
        x.register(3, 2);
        drop(x, 0, 2, 3, 4);
        DUE.is("collect(), the value under the lost key", x.collect(), 1);
        DUE.is("size(5), a value is not strong by a TABLE that is not", x.size(5), 0);
        DUE.is("next(0)", x.next(0), 1);
        DUE.is("size(0), a key that came back is no key any more", x.size(0), 1);
        x.find(2, 0, 1);
        DUE.is("hash(2), a value that is kept", x.hash(2), 3);
        DUE.is("next(3)", x.next(3), 2);
        x.find(4, 0, 3);
        DUE.is("kind(4)", x.kind(4), 0);
        DUE.is("used()", x.used(), 8 + 3 + 3 + 3 + 3);
        keyHeldByItsTableAlone();
    }

    private static void keyHeldByItsTableAlone() {
        ResurrectingHeap x = new ResurrectingHeap();
        x.table(0);
        x.put(0, 0, 0);
        x.register(0, 1);
        drop(x, 0);
        DUE.is("collect()", x.collect(), 0);
        DUE.is("next(0)", x.next(0), 1);
        DUE.is("size(0), it was its own key", x.size(0), 0);
    }

    private static void whatComesBackBringsItsOwn() {
        DUE.promise("what is handed out brings what it holds");
        ResurrectingHeap x = new ResurrectingHeap();
        x.vector(0, 1);
        x.vector(1, 1);
        x.set(1, 0, 0);
        x.vector(2, 1);
        x.set(2, 0, 1);
        x.register(2, 7);
        drop(x, 0, 1, 2);
        DUE.is("collect()", x.collect(), 0);
        DUE.is("used()", x.used(), 9);
        DUE.is("next(2)", x.next(2), 7);
        DUE.is("place(2)", x.place(2), 6);
        x.get(2, 2, 0);
        x.get(2, 2, 0);
        DUE.is("hash(2)", x.hash(2), 1);
        DUE.is("collect()", x.collect(), 2);
    }

    private static void rowOfThoseThatWait() {
        DUE.promise("the row of those that wait");
        ResurrectingHeap x = new ResurrectingHeap();
        for (int v = 0; v < 5; v++) {
            x.vector(v, 1);
        }
        int[] order = {3, 0, 4, 1, 2};
        for (int v : order) {
            x.register(v, 10 + v);
        }
        drop(x, 1, 4);
        DUE.is("collect()", x.collect(), 0);
        drop(x, 0, 2, 3);
        DUE.is("collect()", x.collect(), 0);
        DUE.is("waiting()", x.waiting(), 5);
        int[] tags = {14, 11, 13, 10, 12};
        for (int tag : tags) {
            DUE.is("next(0)", x.next(0), tag);
            DUE.is("hash(0)", x.hash(0), tag - 10 + 1);
        }
        DUE.is("next(0)", x.next(0), -1);
    }

    private static void collectionForLackOfCellsHandsOut() {
        DUE.promise("a call that makes an object collects in the same way");
        ResurrectingHeap x = new ResurrectingHeap();
        x.vector(0, 4);
        x.weak(1, 0);
        x.register(0, 33);
        for (int i = 0; i < 8; i++) {
            x.vector(0, 4);
        }
        DUE.is("used()", x.used(), 57);
        DUE.is("vector(0, 2)", x.vector(0, 2), 11);
        DUE.is("collections()", x.collections(), 1);
        DUE.is("waiting()", x.waiting(), 1);
        DUE.is("size(1)", x.size(1), 0);
        DUE.is("place(1)", x.place(1), 6);
        DUE.is("place(0), behind what 0 held before", x.place(0), 15);
        DUE.is("used()", x.used(), 19);
        DUE.is("next(2)", x.next(2), 33);
        DUE.is("place(2)", x.place(2), 0);
    }
}
