import java.util.ArrayList;
import java.util.LinkedHashMap;
import java.util.List;
import java.util.Map;
import java.util.TreeMap;
import java.util.function.Supplier;

/**
 * All objects that calls can reach in a heap, however deep they lie, with all that calls can tell of them, as
 * one text. Going to an object uses up variables, so each look is at a heap of its own, made in the same way.
 */
final class Picture {
    /** Stands where a look would need more variables than there are. */
    static final String SHUT = "shut";
    private static final int MOST_FIELDS = 4;
    private static final int MOST_WAITING = 8;
    private static final int SOME_TAG = 77;

    private final Supplier<?> same;
    private final Map<Integer, Way> ways = new LinkedHashMap<>();
    private final List<Integer> found = new ArrayList<>();
    private final Map<Integer, Integer> keysTried = new LinkedHashMap<>();
    private final Map<Integer, StringBuilder> told = new TreeMap<>();
    private int lookedInto = 0;

    private Picture(Supplier<?> same) {
        this.same = same;
    }

    static String of(Supplier<?> same) {
        return new Picture(same).draw();
    }

    private String draw() {
        StringBuilder text = new StringBuilder();
        lookAtVariables(text);
        lookAtRow(text);
        do {
            // Ways through fields come first: they need fewer variables than ways through entries.
            lookIntoAll();
        } while (lookUpOneMore());
        told.values().forEach(object -> text.append("\n  ").append(object));
        return text.append('\n').toString();
    }

    private void lookAtVariables(StringBuilder text) {
        Object heap = same.get();
        text.append("used ").append(Ask.of(heap, "used"))
            .append(" collections ").append(Ask.of(heap, "collections"))
            .append(" variables");
        for (int v = 0; v < Way.VARIABLES; v++) {
            text.append(' ').append(atTheEndOf(new Way.Variable(v)));
        }
    }

    private void lookAtRow(StringBuilder text) {
        Object heap = same.get();
        text.append(" waiting ").append(Ask.of(heap, "waiting"));
        for (int before = 0; before <= MOST_WAITING; before++) {
            int tag = Ask.of(heap, "next", 0);
            text.append(" tag ").append(tag).append(tag < 0 ? "" : " " + atTheEndOf(new Way.Waiting(before)));
        }
    }

    private void lookIntoAll() {
        while (lookedInto < found.size()) {
            int hash = found.get(lookedInto);
            lookInto(hash, ways.get(hash));
            lookedInto++;
        }
    }

    private void lookInto(int hash, Way way) {
        Object heap = same.get();
        int x = way.walk(heap);
        int kind = Ask.of(heap, "kind", x);
        StringBuilder text = new StringBuilder("object ").append(hash)
            .append(" kind ").append(kind)
            .append(" place ").append(Ask.of(heap, "place", x))
            .append(" size ").append(Ask.of(heap, "size", x))
            .append(" holds");
        for (int k = 0; k < MOST_FIELDS; k++) {
            boolean has = Ask.of(heap, "get", (x + 1) % Way.VARIABLES, x, k) == 1;
            text.append(' ').append(has ? atTheEndOf(new Way.Part(way, k)) : "-");
        }
        told.put(hash, text);
        if (kind == ResurrectingHeap.TABLE) {
            keysTried.put(hash, 0);
        }
    }

    private boolean lookUpOneMore() {
        for (int table : keysTried.keySet()) {
            int tried = keysTried.get(table);
            if (tried < found.size()) {
                int key = found.get(tried);
                keysTried.put(table, tried + 1);
                told.get(table).append(" under ").append(key).append(' ')
                    .append(atTheEndOf(new Way.Entry(ways.get(table), ways.get(key))));
                return true;
            }
        }
        return false;
    }

    /** What is there, and of an object whether it can be registered; if it is new, this is the way to it. */
    private String atTheEndOf(Way way) {
        if (!way.isOpen()) {
            return SHUT;
        }
        Object heap = same.get();
        int x = way.walk(heap);
        int hash = Ask.of(heap, "hash", x);
        if (hash != 0 && ways.putIfAbsent(hash, way) == null) {
            found.add(hash);
        }
        String held = Ask.of(heap, "kind", x) + ":" + Ask.of(heap, "value", x) + ":" + hash;
        return hash == 0 ? held : held + ":" + Ask.of(heap, "register", x, SOME_TAG);
    }
}
