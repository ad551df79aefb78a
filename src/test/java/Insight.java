import java.util.function.Supplier;

/**
 * All that calls can find out about a heap, as one text: what it is now, and what a collection would make of
 * it while things are held and when nothing is. That tells what is registered, with which tag and in which
 * order; and with an empty row fewer than eight are registered or waiting, if not all eight are held.
 */
final class Insight {
    private Insight() {
    }

    static String of(Supplier<?> same) {
        return "now: " + Picture.of(same)
            + "collect " + Ask.of(same.get(), "collect") + ": " + Picture.of(() -> collected(same.get()))
            + "row taken: " + Picture.of(() -> rowTaken(collected(same.get())))
            + "all dropped: " + Picture.of(() -> collected(dropped(same.get())))
            + "row taken, all dropped: " + Picture.of(() -> collected(dropped(rowTaken(same.get()))))
            + "next hash: " + Ask.of(collected(dropped(rowTaken(same.get()))), "vector", 0, 1);
    }

    private static Object collected(Object heap) {
        Ask.of(heap, "collect");
        return heap;
    }

    private static Object dropped(Object heap) {
        for (int v = 0; v < Way.VARIABLES; v++) {
            Ask.of(heap, "assign", v, -1);
        }
        return heap;
    }

    private static Object rowTaken(Object heap) {
        for (int left = Ask.of(heap, "waiting"); left > 0; left--) {
            Ask.of(heap, "next", 0);
        }
        return heap;
    }
}
