/** All that the calls which change nothing tell about a heap, as one text. */
final class Sight {
    private Sight() {
    }

    static String of(ResurrectingHeap heap) {
        StringBuilder text = new StringBuilder();
        for (int v = 0; v < 6; v++) {
            text.append(v).append(':')
                .append(heap.kind(v)).append(',')
                .append(heap.value(v)).append(',')
                .append(heap.hash(v)).append(',')
                .append(heap.place(v)).append(',')
                .append(heap.size(v)).append(' ');
        }
        return text.append("used ").append(heap.used())
            .append(" waiting ").append(heap.waiting())
            .append(" collections ").append(heap.collections())
            .toString();
    }
}
