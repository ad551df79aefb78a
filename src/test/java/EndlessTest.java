import java.util.Random;

/** No call may throw or fail to end: any arguments, and far more than 512 calls. */
public final class EndlessTest {
    private static final int[] EDGES = {
        Integer.MIN_VALUE, Integer.MIN_VALUE + 1, -1000001, -1000000, -100, -2, -1, 0, 1, 2, 3, 4, 5, 6, 7, 8, 9, 99,
        100, 1000000, 1000001, Integer.MAX_VALUE - 1, Integer.MAX_VALUE};
    private static final Due DUE = new Due();

    public static void main(String[] args) {
        DUE.promise("any arguments");
        ResurrectingHeap fresh = new ResurrectingHeap();
        for (int a : EDGES) {
            for (int b : EDGES) {
                for (int c : EDGES) {
                    callAll(fresh, a, b, c);
                }
            }
        }
        DUE.yes("used() within the heap", fresh.used() >= 0 && fresh.used() <= 60);
        ResurrectingHeap worn = new ResurrectingHeap();
        Random random = new Random(1);
        for (int i = 0; i < 100000; i++) {
            callAll(worn, random.nextInt(8) - 1, random.nextInt(8) - 1, random.nextInt(8) - 1);
        }
        DUE.yes("used() within the heap", worn.used() >= 0 && worn.used() <= 60);
        DUE.end();
    }

    private static void callAll(ResurrectingHeap x, int a, int b, int c) {
        x.vector(a, b);
        x.table(b);
        x.put(a, b, c);
        x.weak(a, b);
        x.set(a, b, c);
        x.register(a, b);
        x.number(a, b);
        x.assign(a, b);
        x.get(a, b, c);
        x.find(a, b, c);
        x.collect();
        x.next(c);
        x.kind(a);
        x.value(a);
        x.hash(a);
        x.place(a);
        x.size(a);
        x.used();
        x.waiting();
        x.collections();
    }
}
