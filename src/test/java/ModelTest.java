import java.util.Random;

/** Long runs of calls, the same each time, on the class and on the model: every answer must agree. */
public final class ModelTest {
    private static final int RUNS = 3000;
    private static final int CALLS = 512;
    private static final Due DUE = new Due();

    public static void main(String[] args) {
        for (int run = 0; run < RUNS && DUE.wrongSoFar() == 0; run++) {
            DUE.promise("run " + run);
            play(new Random(run), run);
        }
        DUE.end();
    }

    private static void play(Random random, int habit) {
        ResurrectingHeap heap = new ResurrectingHeap();
        HeapModel model = new HeapModel();
        for (int i = 1; i <= CALLS && DUE.wrongSoFar() == 0; i++) {
            Call call = Habits.next(random, habit);
            DUE.same("call " + i + ", " + call + ",", call.answerOf(heap), call.answerOf(model));
            DUE.same("all variables after call " + i + ", " + call + ",", Sight.of(heap), model.sight());
        }
    }
}
