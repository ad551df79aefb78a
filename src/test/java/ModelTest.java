import java.util.Random;

/** Long runs of calls, the same each time, on the class and on the model: every answer must agree. */
public final class ModelTest {
    private static final int RUNS = 3000;
    private static final int CALLS = 512;
    private static final Due DUE = new Due();

    public static void main(String[] args) {
        for (int run = 0; run < RUNS && DUE.wrongSoFar() == 0; run++) {
            DUE.promise("run " + run);
            play(new Random(run), run % 4);
        }
        DUE.end();
    }

    private static void play(Random random, int habit) {
        ResurrectingHeap heap = new ResurrectingHeap();
        HeapModel model = new HeapModel();
        for (int i = 0; i < CALLS && DUE.wrongSoFar() == 0; i++) {
            int choice = choice(random, habit);
            int a = variable(random);
            int b = variable(random);
            int c = choice == 4 || choice == 5 ? variable(random) : -9;
            String call = "call " + i + ": " + choice + " with " + a + ", " + b + ", " + c;
            switch (choice) {
                case 0 -> {
                    int n = random.nextInt(8) == 0 ? random.nextInt() : random.nextInt(2000003) - 1000001;
                    DUE.same(call, "" + heap.number(a, n), "" + model.number(a, n));
                }
                case 1 -> DUE.same(call, "" + heap.assign(a, b), "" + model.assign(a, b));
                case 2 -> drop(call, heap, model, a);
                case 3 -> make(call, random, heap, model, a, b);
                case 4 -> DUE.same(call, "" + heap.put(a, b, c), "" + model.put(a, b, c));
                case 5 -> DUE.same(call, "" + heap.find(c, a, b), "" + model.find(c, a, b));
                case 6 -> {
                    int k = field(random);
                    DUE.same(call + " field " + k, "" + heap.set(a, k, b), "" + model.set(a, k, b));
                }
                case 7 -> {
                    int k = field(random);
                    DUE.same(call + " field " + k, "" + heap.get(b, a, k), "" + model.get(b, a, k));
                }
                case 8 -> {
                    int tag = random.nextInt(104) - 2;
                    DUE.same(call + " tag " + tag, "" + heap.register(a, tag), "" + model.register(a, tag));
                }
                case 9 -> DUE.is(call, heap.next(a), model.next(a));
                default -> DUE.is(call, heap.collect(), model.collect());
            }
            DUE.same("state after " + call, Sight.of(heap), model.sight());
        }
    }

    private static void drop(String call, ResurrectingHeap heap, HeapModel model, int v) {
        DUE.same(call, "" + heap.assign(v, -1), "" + model.assign(v, -1));
    }

    private static void make(String call, Random random, ResurrectingHeap heap, HeapModel model, int v, int w) {
        int sort = random.nextInt(4);
        int n = random.nextInt(12) == 0 ? random.nextInt(9) - 2 : 1 + random.nextInt(4);
        if (sort < 2) {
            DUE.is(call + " vector of " + n, heap.vector(v, n), model.vector(v, n));
        } else if (sort == 2) {
            DUE.is(call + " weak", heap.weak(v, w), model.weak(v, w));
        } else {
            DUE.is(call + " table", heap.table(v), model.table(v));
        }
    }

    /** How often each call comes: the habits differ in how soon things are dropped and the heap is full. */
    private static int choice(Random random, int habit) {
        int[][] shares = {
            {1, 1, 1, 1, 1, 1, 1, 1, 1, 1, 1},
            {1, 2, 1, 8, 6, 2, 8, 2, 3, 1, 0},
            {1, 2, 4, 8, 6, 3, 6, 4, 6, 2, 2},
            {1, 1, 6, 6, 8, 2, 8, 2, 8, 6, 4},
        };
        int all = 0;
        for (int share : shares[habit]) {
            all += share;
        }
        int left = random.nextInt(all);
        int choice = 0;
        while (left >= shares[habit][choice]) {
            left -= shares[habit][choice];
            choice++;
        }
        return choice;
    }

    private static int variable(Random random) {
        return random.nextInt(40) == 0 ? random.nextInt(12) - 3 : random.nextInt(6);
    }

    private static int field(Random random) {
        return random.nextInt(20) == 0 ? random.nextInt(9) - 3 : random.nextInt(3);
    }
}
