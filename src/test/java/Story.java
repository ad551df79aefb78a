import java.util.ArrayList;
import java.util.List;

/** Calls that a heap has heard; any number of heaps can be made that have heard the same. */
record Story(List<Call> calls) {
    Story and(Call... more) {
        List<Call> longer = new ArrayList<>(calls);
        longer.addAll(List.of(more));
        return new Story(longer);
    }

    ResurrectingHeap heap() {
        return toldTo(new ResurrectingHeap());
    }

    HeapModel model() {
        return toldTo(new HeapModel());
    }

    private <T> T toldTo(T heap) {
        for (Call call : calls) {
            call.answerOf(heap);
        }
        return heap;
    }
}
