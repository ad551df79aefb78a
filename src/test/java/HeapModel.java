import java.util.ArrayList;
import java.util.LinkedHashMap;
import java.util.List;
import java.util.Map;
import java.util.Set;
import java.util.TreeMap;
import java.util.TreeSet;

/** The document's words, one by one, over sets of hashes: slow, and written apart from the class it checks. */
final class HeapModel {
    /** A value: kind 0 NOTHING, 1 NUMBER with its number, 2 an object with its hash. */
    record Val(int sort, int what) {
        static final Val NONE = new Val(0, 0);
    }

    static final class Obj {
        int kind;
        final List<Val> fields = new ArrayList<>();
        int target;
        final Map<Integer, Val> entries = new TreeMap<>();

        int cells() {
            return kind == 2 ? 2 + fields.size() : kind == 3 ? 3 : 8;
        }
    }

    final Val[] variables = {Val.NONE, Val.NONE, Val.NONE, Val.NONE, Val.NONE, Val.NONE};
    final Map<Integer, Obj> heap = new TreeMap<>();
    final Map<Integer, Integer> registered = new LinkedHashMap<>();
    final Map<Integer, Integer> waiting = new LinkedHashMap<>();
    int made = 0;
    int collections = 0;

    private static boolean in(int v) {
        return 0 <= v && v <= 5;
    }

    private int hashIn(int v) {
        return in(v) && variables[v].sort() == 2 ? variables[v].what() : 0;
    }

    private Obj objectIn(int v, int kind) {
        Obj object = heap.get(hashIn(v));
        return object != null && object.kind == kind ? object : null;
    }

    boolean number(int v, int n) {
        if (!in(v) || Math.abs((long) n) > 1000000) {
            return false;
        }
        variables[v] = new Val(1, n);
        return true;
    }

    boolean assign(int v, int w) {
        if (!in(v) || !(w == -1 || in(w))) {
            return false;
        }
        variables[v] = w == -1 ? Val.NONE : variables[w];
        return true;
    }

    private int make(int v, Obj object) {
        if (60 - used() < object.cells()) {
            collect();
        }
        if (60 - used() < object.cells()) {
            return -2;
        }
        made++;
        heap.put(made, object);
        variables[v] = new Val(2, made);
        return made;
    }

    int vector(int v, int n) {
        if (!in(v) || n < 1 || n > 4) {
            return -1;
        }
        Obj object = new Obj();
        object.kind = 2;
        for (int i = 0; i < n; i++) {
            object.fields.add(Val.NONE);
        }
        return make(v, object);
    }

    int weak(int v, int w) {
        if (!in(v) || hashIn(w) == 0) {
            return -1;
        }
        Obj object = new Obj();
        object.kind = 3;
        object.target = hashIn(w);
        return make(v, object);
    }

    int table(int v) {
        if (!in(v)) {
            return -1;
        }
        Obj object = new Obj();
        object.kind = 4;
        return make(v, object);
    }

    boolean set(int v, int k, int w) {
        Obj vector = objectIn(v, 2);
        if (!in(w) || vector == null || k < 0 || k >= vector.fields.size()) {
            return false;
        }
        vector.fields.set(k, variables[w]);
        return true;
    }

    boolean get(int w, int v, int k) {
        if (!in(w)) {
            return false;
        }
        Obj vector = objectIn(v, 2);
        Obj weak = objectIn(v, 3);
        if (vector != null && k >= 0 && k < vector.fields.size()) {
            variables[w] = vector.fields.get(k);
            return true;
        }
        if (weak != null && k == 0) {
            variables[w] = weak.target == 0 ? Val.NONE : new Val(2, weak.target);
            return true;
        }
        return false;
    }

    boolean put(int t, int k, int w) {
        Obj table = objectIn(t, 4);
        int key = hashIn(k);
        if (!in(w) || table == null || key == 0) {
            return false;
        }
        if (table.entries.size() == 3 && !table.entries.containsKey(key)) {
            return false;
        }
        table.entries.put(key, variables[w]);
        return true;
    }

    boolean find(int w, int t, int k) {
        Obj table = objectIn(t, 4);
        int key = hashIn(k);
        if (!in(w) || table == null || key == 0) {
            return false;
        }
        variables[w] = table.entries.getOrDefault(key, Val.NONE);
        return true;
    }

    boolean register(int v, int tag) {
        int hash = hashIn(v);
        if (hash == 0 || tag < 0 || tag > 99 || registered.containsKey(hash) || waiting.containsKey(hash)) {
            return false;
        }
        if (registered.size() + waiting.size() == 8) {
            return false;
        }
        registered.put(hash, tag);
        return true;
    }

    int next(int v) {
        if (!in(v) || waiting.isEmpty()) {
            return -1;
        }
        int hash = waiting.keySet().iterator().next();
        variables[v] = new Val(2, hash);
        return waiting.remove(hash);
    }

    int collect() {
        collections++;
        Set<Integer> strong = strong();
        for (Obj object : heap.values()) {
            if (object.target != 0 && !strong.contains(object.target)) {
                object.target = 0;
            }
            object.entries.keySet().retainAll(strong);
        }
        for (int hash : new ArrayList<>(registered.keySet())) {
            if (!strong.contains(hash)) {
                waiting.put(hash, registered.remove(hash));
            }
        }
        Set<Integer> kept = kept(strong);
        int before = heap.size();
        heap.keySet().retainAll(kept);
        return before - heap.size();
    }

    private Set<Integer> strong() {
        Set<Integer> strong = new TreeSet<>(waiting.keySet());
        for (Val value : variables) {
            addObject(strong, value);
        }
        int before = -1;
        while (before != strong.size()) {
            before = strong.size();
            for (int hash : new ArrayList<>(strong)) {
                heap.get(hash).fields.forEach(value -> addObject(strong, value));
                heap.get(hash).entries.forEach((key, value) -> {
                    if (strong.contains(key)) {
                        addObject(strong, value);
                    }
                });
            }
        }
        return strong;
    }

    private Set<Integer> kept(Set<Integer> strong) {
        Set<Integer> kept = new TreeSet<>(strong);
        List<Integer> open = new ArrayList<>(strong);
        kept.addAll(waiting.keySet());
        open.addAll(waiting.keySet());
        while (!open.isEmpty()) {
            Obj object = heap.get(open.remove(open.size() - 1));
            List<Val> holds = new ArrayList<>(object.fields);
            holds.addAll(object.entries.values());
            for (Val value : holds) {
                if (value.sort() == 2 && kept.add(value.what())) {
                    open.add(value.what());
                }
            }
        }
        return kept;
    }

    private static void addObject(Set<Integer> hashes, Val value) {
        if (value.sort() == 2) {
            hashes.add(value.what());
        }
    }

    int kind(int v) {
        return !in(v) ? -1 : variables[v].sort() < 2 ? variables[v].sort() : heap.get(hashIn(v)).kind;
    }

    int value(int v) {
        return in(v) && variables[v].sort() == 1 ? variables[v].what() : 0;
    }

    int hash(int v) {
        return hashIn(v);
    }

    int place(int v) {
        if (hashIn(v) == 0) {
            return -1;
        }
        return heap.entrySet().stream().filter(e -> e.getKey() < hashIn(v)).mapToInt(e -> e.getValue().cells()).sum();
    }

    int size(int v) {
        if (hashIn(v) == 0) {
            return -1;
        }
        Obj object = heap.get(hashIn(v));
        return object.kind == 2 ? object.fields.size()
            : object.kind == 3 ? (object.target == 0 ? 0 : 1) : object.entries.size();
    }

    int used() {
        return heap.values().stream().mapToInt(Obj::cells).sum();
    }

    int waiting() {
        return waiting.size();
    }

    int collections() {
        return collections;
    }

    String sight() {
        StringBuilder text = new StringBuilder();
        for (int v = 0; v < 6; v++) {
            text.append(v).append(':').append(kind(v)).append(',').append(value(v)).append(',')
                .append(hash(v)).append(',').append(place(v)).append(',').append(size(v)).append(' ');
        }
        return text.append("used ").append(used()).append(" waiting ").append(waiting())
            .append(" collections ").append(collections()).toString();
    }
}
