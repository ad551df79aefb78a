import java.util.function.Supplier;

/**
 * All that calls can find out about a heap, as one text. The asking changes the heap, so each question has
 * a heap of its own, made in the same way.
 */
final class Insight {
    private static final int VARIABLES = 6;
    private static final int MOST_FIELDS = 4;
    private static final int MOST_WAITING = 8;
    private static final int SOME_TAG = 77;

    private Insight() {
    }

    static String of(Supplier<ResurrectingHeap> same) {
        StringBuilder text = new StringBuilder(Sight.of(same.get()));
        for (int v = 0; v < VARIABLES; v++) {
            fields(text, same.get(), v);
            entries(text, same.get(), v);
            text.append(" register ").append(same.get().register(v, SOME_TAG));
        }
        row(text, same.get());
        afterCollection(text, same.get());
        afterLoss(text, same.get());
        made(text, same.get());
        return text.toString();
    }

    private static void fields(StringBuilder text, ResurrectingHeap heap, int v) {
        int spare = (v + 1) % VARIABLES;
        text.append("\n fields of ").append(v);
        for (int k = 0; k < MOST_FIELDS; k++) {
            text.append(' ').append(heap.get(spare, v, k));
            held(text, heap, spare);
        }
    }

    /** The variable that takes the values comes first as a key: it is overwritten by the first answer. */
    private static void entries(StringBuilder text, ResurrectingHeap heap, int t) {
        int spare = (t + 1) % VARIABLES;
        text.append("\n entries of ").append(t);
        for (int i = 0; i < VARIABLES; i++) {
            int key = (spare + i) % VARIABLES;
            text.append(' ').append(heap.find(spare, t, key));
            held(text, heap, spare);
        }
    }

    private static void row(StringBuilder text, ResurrectingHeap heap) {
        text.append("\n row");
        for (int i = 0; i <= MOST_WAITING; i++) {
            text.append(' ').append(heap.next(VARIABLES - 1));
            held(text, heap, VARIABLES - 1);
        }
    }

    private static void afterCollection(StringBuilder text, ResurrectingHeap heap) {
        text.append("\n collect ").append(heap.collect()).append(' ').append(Sight.of(heap));
        row(text, heap);
    }

    private static void afterLoss(StringBuilder text, ResurrectingHeap heap) {
        for (int v = 0; v < VARIABLES; v++) {
            heap.assign(v, -1);
        }
        text.append("\n all lost ").append(heap.collect()).append(' ').append(Sight.of(heap));
        row(text, heap);
    }

    private static void made(StringBuilder text, ResurrectingHeap heap) {
        text.append("\n made ").append(heap.vector(0, 1)).append(' ').append(Sight.of(heap));
    }

    private static void held(StringBuilder text, ResurrectingHeap heap, int v) {
        text.append(':').append(heap.kind(v)).append(',').append(heap.value(v)).append(',')
            .append(heap.hash(v)).append(',').append(heap.place(v)).append(',').append(heap.size(v));
    }
}
