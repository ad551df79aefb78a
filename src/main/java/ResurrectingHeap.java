/**
 * A heap whose collector can be seen at work. The numbered promises of DOC.md say what each call
 * does; the words used here (strong, kept, gone, registered, waiting) are the words of that document.
 */
public final class ResurrectingHeap {
    public static final int REFUSED = -1;
    public static final int FULL = -2;
    public static final int NOTHING = 0;
    public static final int NUMBER = 1;
    public static final int VECTOR = 2;
    public static final int WEAK = 3;
    public static final int TABLE = 4;

    private static final int VARIABLE_COUNT = 6;
    private static final int NO_VARIABLE = -1;
    private static final int LARGEST_NUMBER = 1000000;
    private static final int MOST_FIELDS = 4;
    private static final int MOST_ENTRIES = 3;
    private static final int HEAP_CELLS = 60;
    private static final int CELLS_BESIDE_FIELDS = 2;
    private static final int WEAK_CELLS = 3;
    private static final int TABLE_CELLS = 8;
    private static final int SMALLEST_CELLS = 3;
    private static final int MOST_OBJECTS = HEAP_CELLS / SMALLEST_CELLS;
    private static final int MOST_TAGGED = 8;
    private static final int LARGEST_TAG = 99;

    private final Value[] variables;
    private final Row objects;
    private final Row registered;
    private final Row waitingRow;
    private int usedCells;
    private int objectsMade;
    private int collectionsMade;

    public ResurrectingHeap() {
        variables = new Value[VARIABLE_COUNT];
        objects = new Row(MOST_OBJECTS);
        registered = new Row(MOST_TAGGED);
        waitingRow = new Row(MOST_TAGGED);
    }

    public boolean number(int v, int n) {
        if (!isVariable(v) || n < -LARGEST_NUMBER || n > LARGEST_NUMBER) {
            return false;
        }
        variables[v] = new Numeral(n);
        return true;
    }

    public boolean assign(int v, int w) {
        if (!isVariable(v) || (w != NO_VARIABLE && !isVariable(w))) {
            return false;
        }
        variables[v] = held(w);
        return true;
    }

    public int vector(int v, int n) {
        if (!isVariable(v) || n < 1 || n > MOST_FIELDS) {
            return REFUSED;
        }
        if (!makeRoom(CELLS_BESIDE_FIELDS + n)) {
            return FULL;
        }
        return settle(v, new Vector(objectsMade + 1, n));
    }

    public int weak(int v, int w) {
        Thing target = heldThing(w);
        if (!isVariable(v) || target == null) {
            return REFUSED;
        }
        if (!makeRoom(WEAK_CELLS)) {
            return FULL;
        }
        return settle(v, new Weak(objectsMade + 1, target));
    }

    public int table(int v) {
        if (!isVariable(v)) {
            return REFUSED;
        }
        if (!makeRoom(TABLE_CELLS)) {
            return FULL;
        }
        return settle(v, new Table(objectsMade + 1));
    }

    public boolean set(int v, int k, int w) {
        if (!isVariable(w)) {
            return false;
        }
        if (held(v) instanceof Vector vector && vector.hasField(k)) {
            vector.fields[k] = held(w);
            return true;
        }
        return false;
    }

    public boolean get(int w, int v, int k) {
        if (!isVariable(w)) {
            return false;
        }
        Value holder = held(v);
        if (holder instanceof Vector vector && vector.hasField(k)) {
            variables[w] = vector.fields[k];
            return true;
        }
        if (holder instanceof Weak weak && k == 0) {
            variables[w] = weak.target;
            return true;
        }
        return false;
    }

    public boolean put(int t, int k, int w) {
        Thing key = heldThing(k);
        if (!isVariable(w) || key == null) {
            return false;
        }
        return held(t) instanceof Table table && table.enter(key, held(w));
    }

    public boolean find(int w, int t, int k) {
        Thing key = heldThing(k);
        if (!isVariable(w) || key == null) {
            return false;
        }
        if (held(t) instanceof Table table) {
            variables[w] = table.valueUnder(key);
            return true;
        }
        return false;
    }

    public boolean register(int v, int tag) {
        Thing thing = heldThing(v);
        if (thing == null || tag < 0 || tag > LARGEST_TAG) {
            return false;
        }
        if (thing.tagged || registered.length() + waitingRow.length() >= MOST_TAGGED) {
            return false;
        }
        thing.tagged = true;
        thing.tag = tag;
        registered.append(thing);
        return true;
    }

    public int next(int v) {
        if (!isVariable(v)) {
            return REFUSED;
        }
        Thing first = waitingRow.takeFirst();
        if (first == null) {
            return REFUSED;
        }
        first.tagged = false;
        variables[v] = first;
        return first.tag;
    }

    public int collect() {
        return runCollection();
    }

    public int kind(int v) {
        if (!isVariable(v)) {
            return REFUSED;
        }
        Value value = held(v);
        return value == null ? NOTHING : value.kindCode();
    }

    public int value(int v) {
        return held(v) instanceof Numeral numeral ? numeral.amount : 0;
    }

    public int hash(int v) {
        Thing thing = heldThing(v);
        return thing == null ? 0 : thing.hash;
    }

    public int place(int v) {
        Thing thing = heldThing(v);
        return thing == null ? REFUSED : thing.place;
    }

    public int size(int v) {
        Thing thing = heldThing(v);
        return thing == null ? REFUSED : thing.extent();
    }

    public int used() {
        return usedCells;
    }

    public int waiting() {
        return waitingRow.length();
    }

    public int collections() {
        return collectionsMade;
    }

    private static boolean isVariable(int v) {
        return v >= 0 && v < VARIABLE_COUNT;
    }

    /** What variable v holds; null stands for NOTHING, and a v that is no variable holds that too. */
    private Value held(int v) {
        return isVariable(v) ? variables[v] : null;
    }

    private Thing heldThing(int v) {
        return held(v) instanceof Thing thing ? thing : null;
    }

    private boolean makeRoom(int cells) {
        if (HEAP_CELLS - usedCells < cells) {
            runCollection();
        }
        return HEAP_CELLS - usedCells >= cells;
    }

    private int settle(int v, Thing made) {
        objectsMade++;
        objects.append(made);
        made.place = usedCells;
        usedCells += made.cells;
        variables[v] = made;
        return made.hash;
    }

    private int runCollection() {
        collectionsMade++;
        clearMarks();
        markVariables();
        waitingRow.markAll();
        spreadMarks();
        loseWhatIsNotStrong();
        handOutRegistered();
        // Every entry that is left has a strong key, so the spreading that found the strong
        // objects, which asks for a marked key, finds the kept ones as well.
        spreadMarks();
        int gone = objects.dropUnmarked();
        closeGaps();
        return gone;
    }

    private void clearMarks() {
        for (int i = 0; i < objects.length(); i++) {
            Thing thing = objects.at(i);
            if (thing != null) {
                thing.marked = false;
            }
        }
    }

    private void markVariables() {
        for (int v = 0; v < VARIABLE_COUNT; v++) {
            markIfThing(variables[v]);
        }
    }

    /** A round that marks nothing is the last; each other round marks one object at least. */
    private void spreadMarks() {
        boolean grew = true;
        for (int round = 0; grew && round <= MOST_OBJECTS; round++) {
            grew = spreadOnce();
        }
    }

    private boolean spreadOnce() {
        boolean grew = false;
        for (int i = 0; i < objects.length(); i++) {
            Thing thing = objects.at(i);
            if (thing != null && thing.marked && thing.markHeld()) {
                grew = true;
            }
        }
        return grew;
    }

    private void loseWhatIsNotStrong() {
        for (int i = 0; i < objects.length(); i++) {
            Thing thing = objects.at(i);
            if (thing != null) {
                thing.loseUnmarked();
            }
        }
    }

    private void handOutRegistered() {
        for (int i = 0; i < registered.length(); i++) {
            Thing thing = registered.at(i);
            if (thing != null && !thing.marked) {
                waitingRow.append(thing);
            }
        }
        // The marks come last: until then they tell which of the registered objects stay so.
        registered.dropUnmarked();
        waitingRow.markAll();
    }

    private void closeGaps() {
        usedCells = 0;
        for (int i = 0; i < objects.length(); i++) {
            Thing thing = objects.at(i);
            if (thing != null) {
                thing.place = usedCells;
                usedCells += thing.cells;
            }
        }
    }

    /** Answers whether a mark was made that was not there before. */
    private static boolean markIfThing(Value value) {
        if (value instanceof Thing thing && !thing.marked) {
            thing.marked = true;
            return true;
        }
        return false;
    }

    /** A number or an object; NOTHING is null. */
    private abstract static class Value {
        abstract int kindCode();
    }

    private static final class Numeral extends Value {
        final int amount;

        Numeral(int amount) {
            this.amount = amount;
        }

        int kindCode() {
            return NUMBER;
        }
    }

    /** What the document calls an object. */
    private abstract static class Thing extends Value {
        final int hash;
        final int cells;
        int place;
        boolean marked;
        boolean tagged;
        int tag;

        Thing(int hash, int cells) {
            this.hash = hash;
            this.cells = cells;
        }

        abstract int extent();

        /** Marks what this object holds strongly; answers whether a mark is new. */
        abstract boolean markHeld();

        /** Gives up the targets and keys that are not marked. */
        abstract void loseUnmarked();
    }

    private static final class Vector extends Thing {
        final Value[] fields;

        Vector(int hash, int fieldCount) {
            super(hash, CELLS_BESIDE_FIELDS + fieldCount);
            fields = new Value[fieldCount];
        }

        boolean hasField(int k) {
            return k >= 0 && k < fields.length;
        }

        int kindCode() {
            return VECTOR;
        }

        int extent() {
            return fields.length;
        }

        boolean markHeld() {
            boolean grew = false;
            for (int k = 0; k < fields.length; k++) {
                if (markIfThing(fields[k])) {
                    grew = true;
                }
            }
            return grew;
        }

        void loseUnmarked() {
            // A vector holds its fields for as long as it lasts itself.
        }
    }

    private static final class Weak extends Thing {
        Thing target;

        Weak(int hash, Thing target) {
            super(hash, WEAK_CELLS);
            this.target = target;
        }

        int kindCode() {
            return WEAK;
        }

        int extent() {
            return target == null ? 0 : 1;
        }

        boolean markHeld() {
            return false;
        }

        void loseUnmarked() {
            if (target != null && !target.marked) {
                target = null;
            }
        }
    }

    private static final class Table extends Thing {
        private final Thing[] keys;
        private final Value[] values;
        private int entryCount;

        Table(int hash) {
            super(hash, TABLE_CELLS);
            keys = new Thing[MOST_ENTRIES];
            values = new Value[MOST_ENTRIES];
        }

        /** Answers false, and changes nothing, when the entry is new and there is no room for it. */
        boolean enter(Thing key, Value value) {
            int entry = entryOf(key);
            if (entry >= MOST_ENTRIES) {
                return false;
            }
            if (entry == entryCount) {
                keys[entry] = key;
                entryCount++;
            }
            values[entry] = value;
            return true;
        }

        Value valueUnder(Thing key) {
            int entry = entryOf(key);
            return entry < entryCount ? values[entry] : null;
        }

        /** The number of the entry with this key, or the number of entries when there is none. */
        private int entryOf(Thing key) {
            for (int entry = 0; entry < entryCount; entry++) {
                if (keys[entry] == key) {
                    return entry;
                }
            }
            return entryCount;
        }

        int kindCode() {
            return TABLE;
        }

        int extent() {
            return entryCount;
        }

        boolean markHeld() {
            boolean grew = false;
            for (int entry = 0; entry < entryCount; entry++) {
                Thing key = keys[entry];
                if (key != null && key.marked && markIfThing(values[entry])) {
                    grew = true;
                }
            }
            return grew;
        }

        void loseUnmarked() {
            int left = 0;
            for (int entry = 0; entry < entryCount; entry++) {
                Thing key = keys[entry];
                if (key != null && key.marked) {
                    keys[left] = key;
                    values[left] = values[entry];
                    left++;
                }
            }
            entryCount = left;
        }
    }

    /** Objects one behind the other, never more than the row was made for. */
    private static final class Row {
        private final Thing[] things;
        private int count;

        Row(int most) {
            things = new Thing[most];
        }

        int length() {
            return count;
        }

        Thing at(int i) {
            return i >= 0 && i < count ? things[i] : null;
        }

        void append(Thing thing) {
            if (count < things.length) {
                things[count] = thing;
                count++;
            }
        }

        /** Answers null when the row is empty. */
        Thing takeFirst() {
            if (count == 0) {
                return null;
            }
            Thing first = things[0];
            for (int i = 1; i < count; i++) {
                things[i - 1] = things[i];
            }
            count--;
            return first;
        }

        void markAll() {
            for (int i = 0; i < count; i++) {
                markIfThing(things[i]);
            }
        }

        /** Those that stay keep their order; answers how many went. */
        int dropUnmarked() {
            int left = 0;
            for (int i = 0; i < count; i++) {
                Thing thing = things[i];
                if (thing != null && thing.marked) {
                    things[left] = thing;
                    left++;
                }
            }
            int dropped = count - left;
            count = left;
            return dropped;
        }
    }
}
