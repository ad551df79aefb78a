/** A method for each promise: ordinary calls, the edges that the document names, and wrong inputs. */
public final class PromisesTest {
    private static final int[] NO_VARIABLES = {-1, -2, 6, 7, Integer.MIN_VALUE, Integer.MAX_VALUE};
    private static final Due DUE = new Due();

    public static void main(String[] args) {
        newObject();
        number();
        assign();
        vector();
        weak();
        table();
        makingCollects();
        set();
        get();
        put();
        find();
        register();
        next();
        collect();
        kind();
        value();
        hash();
        place();
        size();
        used();
        waiting();
        collections();
        DUE.end();
    }

    private static void newObject() {
        DUE.promise("1 a new object");
        ResurrectingHeap x = new ResurrectingHeap();
        for (int v = 0; v < 6; v++) {
            DUE.is("kind", x.kind(v), ResurrectingHeap.NOTHING);
        }
        DUE.is("used()", x.used(), 0);
        DUE.is("waiting()", x.waiting(), 0);
        DUE.is("collections()", x.collections(), 0);
        DUE.is("next(0)", x.next(0), -1);
        x.vector(0, 4);
        DUE.same("another new object", Sight.of(new ResurrectingHeap()),
            "0:0,0,0,-1,-1 1:0,0,0,-1,-1 2:0,0,0,-1,-1 3:0,0,0,-1,-1 4:0,0,0,-1,-1 5:0,0,0,-1,-1 "
                + "used 0 waiting 0 collections 0");
    }

    private static void number() {
        DUE.promise("2 number");
        ResurrectingHeap x = new ResurrectingHeap();
        int[] good = {0, 1, -1, 999999, 1000000, -1000000};
        for (int v = 0; v < 6; v++) {
            DUE.yes("number(" + v + ", ..)", x.number(v, good[v]));
        }
        for (int v = 0; v < 6; v++) {
            DUE.is("value(" + v + ")", x.value(v), good[v]);
            DUE.is("kind(" + v + ")", x.kind(v), 1);
        }
        String before = Sight.of(x);
        int[] bad = {1000001, -1000001, Integer.MIN_VALUE, Integer.MAX_VALUE};
        for (int n : bad) {
            DUE.no("number(0, " + n + ")", x.number(0, n));
        }
        for (int v : NO_VARIABLES) {
            DUE.no("number(" + v + ", 5)", x.number(v, 5));
        }
        DUE.same("state after refusals", Sight.of(x), before);
        x.vector(0, 1);
        DUE.yes("number over an object", x.number(0, 12));
        DUE.is("value(0)", x.value(0), 12);
        DUE.is("collect()", x.collect(), 1);
    }

    private static void assign() {
        DUE.promise("3 assign");
        ResurrectingHeap x = new ResurrectingHeap();
        x.number(0, 9);
        x.vector(1, 2);
        DUE.yes("assign(5, 0)", x.assign(5, 0));
        DUE.is("value(5)", x.value(5), 9);
        DUE.yes("assign(4, 1)", x.assign(4, 1));
        DUE.is("hash(4)", x.hash(4), 1);
        DUE.yes("assign(4, 4)", x.assign(4, 4));
        DUE.is("hash(4)", x.hash(4), 1);
        DUE.yes("set(4, 0, 0)", x.set(4, 0, 0));
        DUE.yes("get(3, 1, 0), the same object", x.get(3, 1, 0));
        DUE.is("value(3)", x.value(3), 9);
        DUE.yes("assign(0, 2)", x.assign(0, 2));
        DUE.is("kind(0)", x.kind(0), 0);
        DUE.yes("assign(1, -1)", x.assign(1, -1));
        DUE.is("kind(1)", x.kind(1), 0);
        DUE.is("hash(4)", x.hash(4), 1);
        String before = Sight.of(x);
        for (int v : NO_VARIABLES) {
            DUE.no("assign(" + v + ", 4)", x.assign(v, 4));
            DUE.no("assign(" + v + ", -1)", x.assign(v, -1));
            if (v != -1) {
                DUE.no("assign(4, " + v + ")", x.assign(4, v));
            }
        }
        DUE.same("state after refusals", Sight.of(x), before);
    }

    private static void vector() {
        DUE.promise("4 vector");
        ResurrectingHeap x = new ResurrectingHeap();
        for (int n = 1; n <= 4; n++) {
            DUE.is("vector(0, " + n + ")", x.vector(0, n), n);
            DUE.is("kind(0)", x.kind(0), 2);
            DUE.is("hash(0)", x.hash(0), n);
            DUE.is("size(0)", x.size(0), n);
            for (int k = 0; k < n; k++) {
                x.number(1, 3);
                DUE.yes("get(1, 0, k)", x.get(1, 0, k));
                DUE.is("a field of a new VECTOR", x.kind(1), 0);
            }
        }
        DUE.is("used()", x.used(), 3 + 4 + 5 + 6);
        String before = Sight.of(x);
        int[] bad = {0, -1, 5, Integer.MIN_VALUE, Integer.MAX_VALUE};
        for (int n : bad) {
            DUE.is("vector(0, " + n + ")", x.vector(0, n), -1);
        }
        for (int v : NO_VARIABLES) {
            DUE.is("vector(" + v + ", 1)", x.vector(v, 1), -1);
        }
        DUE.same("state after refusals", Sight.of(x), before);
        DUE.is("vector(5, 1), no hash was used", x.vector(5, 1), 5);
    }

    private static void weak() {
        DUE.promise("5 weak");
        ResurrectingHeap x = new ResurrectingHeap();
        x.vector(0, 1);
        DUE.is("weak(1, 0)", x.weak(1, 0), 2);
        DUE.is("kind(1)", x.kind(1), 3);
        DUE.is("size(1)", x.size(1), 1);
        DUE.yes("get(2, 1, 0)", x.get(2, 1, 0));
        DUE.is("hash(2)", x.hash(2), 1);
        DUE.is("weak(1, 1), of a WEAK, into its own variable", x.weak(1, 1), 3);
        DUE.is("hash(1)", x.hash(1), 3);
        DUE.yes("get(3, 1, 0)", x.get(3, 1, 0));
        DUE.is("hash(3)", x.hash(3), 2);
        DUE.is("used()", x.used(), 9);
        x.number(4, 0);
        String before = Sight.of(x);
        DUE.is("weak(0, 4) of a number", x.weak(0, 4), -1);
        DUE.is("weak(0, 5) of NOTHING", x.weak(0, 5), -1);
        for (int v : NO_VARIABLES) {
            DUE.is("weak(" + v + ", 0)", x.weak(v, 0), -1);
            DUE.is("weak(0, " + v + ")", x.weak(0, v), -1);
        }
        DUE.same("state after refusals", Sight.of(x), before);
    }

    private static void table() {
        DUE.promise("6 table");
        ResurrectingHeap x = new ResurrectingHeap();
        DUE.is("table(5)", x.table(5), 1);
        DUE.is("kind(5)", x.kind(5), 4);
        DUE.is("size(5)", x.size(5), 0);
        DUE.is("used()", x.used(), 8);
        DUE.is("table(5)", x.table(5), 2);
        DUE.is("hash(5)", x.hash(5), 2);
        DUE.is("place(5)", x.place(5), 8);
        String before = Sight.of(x);
        for (int v : NO_VARIABLES) {
            DUE.is("table(" + v + ")", x.table(v), -1);
        }
        DUE.same("state after refusals", Sight.of(x), before);
    }

    /** Ten VECTORS of 4 fields that hold each other: all 60 cells, and variable 0 holds the last. */
    private static ResurrectingHeap fullOfStrong() {
        ResurrectingHeap x = new ResurrectingHeap();
        x.vector(0, 4);
        for (int i = 1; i < 10; i++) {
            x.vector(1, 4);
            x.set(1, 0, 0);
            x.assign(0, 1);
        }
        x.assign(1, -1);
        return x;
    }

    private static void makingCollects() {
        DUE.promise("4, 5 and 6, the cells");
        ResurrectingHeap x = fullOfStrong();
        DUE.is("used(), all cells", x.used(), 60);
        DUE.is("collections(), exactly enough cells make none", x.collections(), 0);
        x.number(3, 77);
        DUE.is("vector(3, 1)", x.vector(3, 1), ResurrectingHeap.FULL);
        DUE.is("collections(), it stays made", x.collections(), 1);
        DUE.is("value(3), what it held", x.value(3), 77);
        DUE.is("weak(3, 0)", x.weak(3, 0), ResurrectingHeap.FULL);
        DUE.is("table(3)", x.table(3), ResurrectingHeap.FULL);
        DUE.is("collections()", x.collections(), 3);
        DUE.is("vector(6, 1), refused without a collection", x.vector(6, 1), -1);
        DUE.is("vector(3, 5)", x.vector(3, 5), -1);
        DUE.is("weak(3, 3)", x.weak(3, 3), -1);
        DUE.is("weak(6, 0)", x.weak(6, 0), -1);
        DUE.is("table(6)", x.table(6), -1);
        DUE.is("collections()", x.collections(), 3);
        DUE.is("vector(0, 4), what 0 held lasts through the collection", x.vector(0, 4), -2);
        DUE.is("hash(0)", x.hash(0), 10);
        DUE.yes("get(0, 0, 0), the last is free now", x.get(0, 0, 0));
        DUE.is("vector(3, 4)", x.vector(3, 4), 11);
        DUE.is("place(3)", x.place(3), 54);
        DUE.is("used()", x.used(), 60);
        DUE.is("collections()", x.collections(), 5);
        fullStaysCollected();
        tooFewAfterwards();
    }

    private static void fullStaysCollected() {
        ResurrectingHeap x = new ResurrectingHeap();
        x.vector(1, 1);
        x.weak(2, 1);
        x.assign(1, -1);
        x.vector(0, 4);
        for (int i = 1; i < 9; i++) {
            x.vector(1, 4);
            x.set(1, 0, 0);
            x.assign(0, 1);
        }
        DUE.is("used()", x.used(), 60);
        DUE.is("size(2)", x.size(2), 1);
        DUE.is("table(5)", x.table(5), -2);
        DUE.is("used(), one is gone all the same", x.used(), 57);
        DUE.is("size(2), its target too", x.size(2), 0);
        DUE.is("place(2)", x.place(2), 0);
        DUE.is("kind(5)", x.kind(5), 0);
        DUE.is("weak(5, 2), without a collection, no hash was used", x.weak(5, 2), 12);
        DUE.is("collections()", x.collections(), 1);
    }

    private static void tooFewAfterwards() {
        ResurrectingHeap x = fullOfStrong();
        x.get(0, 0, 0);
        DUE.is("table(5), 6 cells left of 8", x.table(5), -2);
        DUE.is("used()", x.used(), 54);
        DUE.is("table(5)", x.table(5), -2);
        DUE.is("vector(5, 4)", x.vector(5, 4), 11);
        DUE.is("collections()", x.collections(), 2);
    }

    private static void set() {
        DUE.promise("7 set");
        ResurrectingHeap x = new ResurrectingHeap();
        x.vector(0, 3);
        x.number(1, 4);
        x.table(2);
        x.weak(3, 0);
        DUE.yes("set(0, 0, 1)", x.set(0, 0, 1));
        DUE.yes("set(0, 1, 0), itself", x.set(0, 1, 0));
        DUE.yes("set(0, 2, 2)", x.set(0, 2, 2));
        DUE.is("value", fieldSeen(x, 0).value(5), 4);
        DUE.is("hash", fieldSeen(x, 1).hash(5), 1);
        DUE.is("hash", fieldSeen(x, 2).hash(5), 2);
        DUE.yes("set(0, 2, 4), NOTHING", x.set(0, 2, 4));
        DUE.is("kind", fieldSeen(x, 2).kind(5), 0);
        String before = Sight.of(x);
        int[] bad = {-1, 3, 4, Integer.MIN_VALUE, Integer.MAX_VALUE};
        for (int k : bad) {
            DUE.no("set(0, " + k + ", 0)", x.set(0, k, 0));
        }
        for (int v : NO_VARIABLES) {
            DUE.no("set(" + v + ", 0, 0)", x.set(v, 0, 0));
            DUE.no("set(0, 0, " + v + ")", x.set(0, 0, v));
        }
        for (int v = 1; v < 5; v++) {
            DUE.no("set(" + v + ", 0, 0), no VECTOR", x.set(v, 0, 0));
        }
        DUE.same("state after refusals", Sight.of(x), before);
        DUE.is("value", fieldSeen(x, 0).value(5), 4);
        DUE.yes("get(4, 3, 0)", x.get(4, 3, 0));
        DUE.is("hash(4)", x.hash(4), 1);
    }

    private static ResurrectingHeap fieldSeen(ResurrectingHeap x, int k) {
        DUE.yes("get(5, 0, " + k + ")", x.get(5, 0, k));
        return x;
    }

    private static void get() {
        DUE.promise("8 get");
        ResurrectingHeap x = new ResurrectingHeap();
        x.vector(0, 2);
        x.number(1, -6);
        x.set(0, 1, 1);
        x.weak(2, 0);
        x.table(3);
        DUE.yes("get(4, 0, 1)", x.get(4, 0, 1));
        DUE.is("value(4)", x.value(4), -6);
        DUE.yes("get(4, 0, 0)", x.get(4, 0, 0));
        DUE.is("kind(4)", x.kind(4), 0);
        DUE.yes("get(4, 2, 0)", x.get(4, 2, 0));
        DUE.is("hash(4)", x.hash(4), 1);
        String before = Sight.of(x);
        int[] bad = {-1, 2, 3, Integer.MIN_VALUE, Integer.MAX_VALUE};
        for (int k : bad) {
            DUE.no("get(4, 0, " + k + ")", x.get(4, 0, k));
            DUE.no("get(4, 2, " + k + ")", x.get(4, 2, k));
        }
        DUE.no("get(4, 2, 1)", x.get(4, 2, 1));
        DUE.no("get(4, 1, 0), a number", x.get(4, 1, 0));
        DUE.no("get(4, 3, 0), a TABLE", x.get(4, 3, 0));
        DUE.no("get(4, 5, 0), NOTHING", x.get(4, 5, 0));
        for (int v : NO_VARIABLES) {
            DUE.no("get(" + v + ", 0, 1)", x.get(v, 0, 1));
            DUE.no("get(4, " + v + ", 0)", x.get(4, v, 0));
        }
        DUE.same("state after refusals", Sight.of(x), before);
        DUE.yes("get(0, 0, 1), into its own variable", x.get(0, 0, 1));
        DUE.is("value(0)", x.value(0), -6);
        x.assign(4, -1);
        x.collect();
        x.number(5, 1);
        DUE.yes("get(5, 2, 0), no target", x.get(5, 2, 0));
        DUE.is("kind(5)", x.kind(5), 0);
        DUE.yes("get(2, 2, 0), into its own variable", x.get(2, 2, 0));
        DUE.is("kind(2)", x.kind(2), 0);
    }

    private static void put() {
        DUE.promise("9 put");
        ResurrectingHeap x = new ResurrectingHeap();
        x.table(0);
        x.vector(1, 1);
        x.weak(2, 1);
        x.number(3, 8);
        DUE.yes("put(0, 1, 3)", x.put(0, 1, 3));
        DUE.yes("put(0, 2, 1)", x.put(0, 2, 1));
        DUE.is("size(0)", x.size(0), 2);
        DUE.yes("put(0, 1, 2), the same key", x.put(0, 1, 2));
        DUE.is("size(0)", x.size(0), 2);
        DUE.yes("put(0, 0, 5), itself, NOTHING", x.put(0, 0, 5));
        DUE.is("size(0)", x.size(0), 3);
        DUE.is("hash", entrySeen(x, 1).hash(4), 3);
        DUE.is("hash", entrySeen(x, 2).hash(4), 2);
        DUE.is("kind", entrySeen(x, 0).kind(4), 0);
        x.vector(5, 1);
        DUE.no("put(0, 5, 3), three other keys", x.put(0, 5, 3));
        DUE.yes("put(0, 2, 3), a full table", x.put(0, 2, 3));
        DUE.is("value", entrySeen(x, 2).value(4), 8);
        DUE.is("size(0)", x.size(0), 3);
        String before = Sight.of(x);
        DUE.no("put(0, 3, 1), a number as key", x.put(0, 3, 1));
        x.assign(4, -1);
        DUE.no("put(0, 4, 1), NOTHING as key", x.put(0, 4, 1));
        for (int t = 1; t < 6; t++) {
            DUE.no("put(" + t + ", 1, 1), no TABLE", x.put(t, 1, 1));
        }
        for (int v : NO_VARIABLES) {
            DUE.no("put(" + v + ", 1, 1)", x.put(v, 1, 1));
            DUE.no("put(0, " + v + ", 1)", x.put(0, v, 1));
            DUE.no("put(0, 1, " + v + ")", x.put(0, 1, v));
        }
        x.number(4, 8);
        DUE.same("state after refusals", Sight.of(x), before);
        DUE.is("hash", entrySeen(x, 1).hash(4), 3);
        DUE.is("kind", entrySeen(x, 5).kind(4), 0);
    }

    private static ResurrectingHeap entrySeen(ResurrectingHeap x, int k) {
        DUE.yes("find(4, 0, " + k + ")", x.find(4, 0, k));
        return x;
    }

    private static void find() {
        DUE.promise("10 find");
        ResurrectingHeap x = new ResurrectingHeap();
        x.table(0);
        x.vector(1, 1);
        x.vector(2, 1);
        x.number(3, 5);
        x.put(0, 1, 3);
        DUE.yes("find(4, 0, 1)", x.find(4, 0, 1));
        DUE.is("value(4)", x.value(4), 5);
        DUE.yes("find(4, 0, 2), no entry", x.find(4, 0, 2));
        DUE.is("kind(4)", x.kind(4), 0);
        DUE.is("size(0), none was made", x.size(0), 1);
        x.number(4, 6);
        String before = Sight.of(x);
        DUE.no("find(4, 0, 3), a number", x.find(4, 0, 3));
        DUE.no("find(4, 0, 5), NOTHING", x.find(4, 0, 5));
        for (int t = 1; t < 6; t++) {
            DUE.no("find(4, " + t + ", 1), no TABLE", x.find(4, t, 1));
        }
        for (int v : NO_VARIABLES) {
            DUE.no("find(" + v + ", 0, 1)", x.find(v, 0, 1));
            DUE.no("find(4, " + v + ", 1)", x.find(4, v, 1));
            DUE.no("find(4, 0, " + v + ")", x.find(4, 0, v));
        }
        DUE.same("state after refusals", Sight.of(x), before);
        DUE.yes("find(1, 0, 1), into the key's variable", x.find(1, 0, 1));
        DUE.is("value(1)", x.value(1), 5);
        DUE.yes("find(0, 0, 2), into the table's variable", x.find(0, 0, 2));
        DUE.is("kind(0)", x.kind(0), 0);
    }

    private static void register() {
        DUE.promise("11 register");
        ResurrectingHeap x = new ResurrectingHeap();
        x.vector(0, 1);
        x.number(1, 3);
        String before = Sight.of(x);
        DUE.no("register(1, 5), a number", x.register(1, 5));
        DUE.no("register(2, 5), NOTHING", x.register(2, 5));
        int[] bad = {-1, 100, Integer.MIN_VALUE, Integer.MAX_VALUE};
        for (int tag : bad) {
            DUE.no("register(0, " + tag + ")", x.register(0, tag));
        }
        for (int v : NO_VARIABLES) {
            DUE.no("register(" + v + ", 5)", x.register(v, 5));
        }
        DUE.same("state after refusals", Sight.of(x), before);
        DUE.yes("register(0, 99)", x.register(0, 99));
        DUE.no("register(0, 98), it is registered", x.register(0, 98));
        x.weak(1, 0);
        x.table(2);
        DUE.yes("register(2, 0), a TABLE", x.register(2, 0));
        DUE.yes("register(1, 99), a WEAK, a tag again", x.register(1, 99));
        DUE.is("waiting(), none yet", x.waiting(), 0);
        for (int v = 0; v < 3; v++) {
            x.assign(v, -1);
        }
        DUE.is("collect()", x.collect(), 0);
        DUE.is("next(0)", x.next(0), 99);
        DUE.is("hash(0)", x.hash(0), 1);
        DUE.is("next(1)", x.next(1), 0);
        DUE.is("hash(1)", x.hash(1), 3);
        DUE.yes("register(1, 7), once more", x.register(1, 7));
        DUE.is("next(2)", x.next(2), 99);
        DUE.is("hash(2)", x.hash(2), 2);
        DUE.is("next(3)", x.next(3), -1);
        registerWhileWaiting();
        registerEight();
    }

    private static void registerWhileWaiting() {
        ResurrectingHeap x = new ResurrectingHeap();
        x.vector(0, 1);
        x.vector(1, 1);
        x.set(1, 0, 0);
        x.register(1, 1);
        x.register(0, 2);
        x.assign(0, -1);
        x.assign(1, -1);
        x.collect();
        x.next(1);
        x.get(0, 1, 0);
        DUE.no("register(0, 3), it is waiting", x.register(0, 3));
        DUE.is("next(2)", x.next(2), 2);
        DUE.yes("register(0, 3), it waits no more", x.register(0, 3));
    }

    private static void registerEight() {
        ResurrectingHeap x = new ResurrectingHeap();
        for (int i = 0; i < 8; i++) {
            x.vector(0, 1);
            DUE.yes("register(0, " + i + ")", x.register(0, i));
        }
        x.vector(1, 1);
        DUE.no("register(1, 8), 8 are registered", x.register(1, 8));
        x.collect();
        DUE.is("waiting()", x.waiting(), 7);
        DUE.no("register(1, 8), 7 are waiting and 1 registered", x.register(1, 8));
        DUE.is("next(2)", x.next(2), 0);
        DUE.yes("register(1, 8)", x.register(1, 8));
        DUE.no("register(2, 9)", x.register(2, 9));
        x.assign(0, -1);
        x.assign(1, -1);
        x.collect();
        DUE.is("waiting()", x.waiting(), 8);
        DUE.no("register(2, 9), 8 are waiting", x.register(2, 9));
        for (int i = 1; i <= 8; i++) {
            DUE.is("next(3)", x.next(3), i);
        }
        DUE.is("hash(3), the one registered last", x.hash(3), 9);
    }

    private static void next() {
        DUE.promise("12 next");
        ResurrectingHeap x = new ResurrectingHeap();
        x.number(4, 2);
        DUE.is("next(4), none waits", x.next(4), -1);
        DUE.is("value(4)", x.value(4), 2);
        x.vector(0, 2);
        x.register(0, 0);
        DUE.is("next(4), registered is not waiting", x.next(4), -1);
        x.assign(0, -1);
        x.vector(0, 1);
        x.register(0, 50);
        x.assign(0, -1);
        x.collect();
        String before = Sight.of(x);
        for (int v : NO_VARIABLES) {
            DUE.is("next(" + v + ")", x.next(v), -1);
        }
        DUE.same("state after refusals", Sight.of(x), before);
        DUE.is("next(4)", x.next(4), 0);
        DUE.is("hash(4)", x.hash(4), 1);
        DUE.is("size(4)", x.size(4), 2);
        DUE.is("waiting()", x.waiting(), 1);
        DUE.is("next(4)", x.next(4), 50);
        DUE.is("hash(4)", x.hash(4), 2);
        DUE.is("waiting()", x.waiting(), 0);
        DUE.is("collect(), the first is held no more", x.collect(), 1);
        x.assign(4, -1);
        DUE.is("collect(), it is not registered any more", x.collect(), 1);
        DUE.is("waiting()", x.waiting(), 0);
    }

    private static void collect() {
        DUE.promise("13 collect");
        ResurrectingHeap x = new ResurrectingHeap();
        DUE.is("collect(), nothing is there", x.collect(), 0);
        x.vector(0, 1);
        x.vector(0, 2);
        x.table(0);
        x.weak(0, 0);
        x.number(1, 5);
        DUE.is("collect(), two VECTORS and a TABLE", x.collect(), 3);
        DUE.is("hash(0)", x.hash(0), 4);
        DUE.is("place(0)", x.place(0), 0);
        DUE.is("size(0)", x.size(0), 0);
        DUE.is("used()", x.used(), 3);
        DUE.is("value(1)", x.value(1), 5);
        DUE.is("collect(), nothing is gone", x.collect(), 0);
        DUE.is("collections()", x.collections(), 3);
        x.vector(2, 1);
        DUE.is("hash(2), hashes are not used again", x.hash(2), 5);
        DUE.is("place(2)", x.place(2), 3);
    }

    private static ResurrectingHeap oneOfEach() {
        ResurrectingHeap x = new ResurrectingHeap();
        x.number(1, -44);
        x.vector(2, 3);
        x.weak(3, 2);
        x.table(4);
        x.put(4, 4, 1);
        x.put(4, 2, 1);
        return x;
    }

    private static void kind() {
        DUE.promise("14 kind");
        ResurrectingHeap x = oneOfEach();
        for (int v = 0; v < 5; v++) {
            DUE.is("kind(" + v + ")", x.kind(v), v);
        }
        for (int v : NO_VARIABLES) {
            DUE.is("kind(" + v + ")", x.kind(v), -1);
        }
    }

    private static void value() {
        DUE.promise("15 value");
        ResurrectingHeap x = oneOfEach();
        int[] want = {0, -44, 0, 0, 0, 0};
        for (int v = 0; v < 6; v++) {
            DUE.is("value(" + v + ")", x.value(v), want[v]);
        }
        for (int v : NO_VARIABLES) {
            DUE.is("value(" + v + ")", x.value(v), 0);
        }
    }

    private static void hash() {
        DUE.promise("16 hash");
        ResurrectingHeap x = oneOfEach();
        int[] want = {0, 0, 1, 2, 3, 0};
        for (int v = 0; v < 6; v++) {
            DUE.is("hash(" + v + ")", x.hash(v), want[v]);
        }
        for (int v : NO_VARIABLES) {
            DUE.is("hash(" + v + ")", x.hash(v), 0);
        }
        x.assign(2, -1);
        x.collect();
        DUE.is("hash(4), after its place has changed", x.hash(4), 3);
    }

    private static void place() {
        DUE.promise("17 place");
        ResurrectingHeap x = oneOfEach();
        int[] want = {-1, -1, 0, 5, 8, -1};
        for (int v = 0; v < 6; v++) {
            DUE.is("place(" + v + ")", x.place(v), want[v]);
        }
        for (int v : NO_VARIABLES) {
            DUE.is("place(" + v + ")", x.place(v), -1);
        }
        x.assign(2, -1);
        DUE.is("place(4), not before a collection", x.place(4), 8);
        x.collect();
        DUE.is("place(3)", x.place(3), 0);
        DUE.is("place(4)", x.place(4), 3);
        x.assign(3, -1);
        x.collect();
        DUE.is("place(4)", x.place(4), 0);
        x.vector(0, 1);
        DUE.is("place(0)", x.place(0), 8);
    }

    private static void size() {
        DUE.promise("18 size");
        ResurrectingHeap x = oneOfEach();
        int[] want = {-1, -1, 3, 1, 2, -1};
        for (int v = 0; v < 6; v++) {
            DUE.is("size(" + v + ")", x.size(v), want[v]);
        }
        for (int v : NO_VARIABLES) {
            DUE.is("size(" + v + ")", x.size(v), -1);
        }
        x.assign(2, -1);
        DUE.is("size(3), not before a collection", x.size(3), 1);
        x.collect();
        DUE.is("size(3)", x.size(3), 0);
        DUE.is("size(4)", x.size(4), 1);
    }

    private static void used() {
        DUE.promise("19 used");
        ResurrectingHeap x = new ResurrectingHeap();
        x.vector(0, 1);
        DUE.is("used()", x.used(), 3);
        x.vector(0, 4);
        DUE.is("used(), nothing is gone yet", x.used(), 9);
        x.weak(1, 0);
        DUE.is("used()", x.used(), 12);
        x.table(2);
        DUE.is("used()", x.used(), 20);
        x.register(2, 1);
        x.assign(2, -1);
        x.collect();
        DUE.is("used(), a waiting object counts", x.used(), 17);
        x.next(2);
        x.assign(2, -1);
        DUE.is("used()", x.used(), 17);
        x.collect();
        DUE.is("used()", x.used(), 9);
    }

    private static void waiting() {
        DUE.promise("20 waiting");
        ResurrectingHeap x = new ResurrectingHeap();
        x.vector(0, 1);
        x.register(0, 1);
        x.collect();
        DUE.is("waiting(), it is strong", x.waiting(), 0);
        x.assign(0, -1);
        DUE.is("waiting(), not before a collection", x.waiting(), 0);
        x.collect();
        DUE.is("waiting()", x.waiting(), 1);
        x.collect();
        DUE.is("waiting(), for as long as it is not fetched", x.waiting(), 1);
        x.next(0);
        DUE.is("waiting()", x.waiting(), 0);
    }

    private static void collections() {
        DUE.promise("21 collections");
        ResurrectingHeap x = new ResurrectingHeap();
        for (int i = 1; i <= 3; i++) {
            x.collect();
            DUE.is("collections()", x.collections(), i);
        }
        for (int i = 0; i < 10; i++) {
            x.vector(0, 4);
        }
        DUE.is("collections(), 60 cells are taken", x.collections(), 3);
        DUE.is("vector(1, 1)", x.vector(1, 1), 11);
        DUE.is("collections(), one for lack of cells", x.collections(), 4);
        DUE.is("used()", x.used(), 9);
    }
}
