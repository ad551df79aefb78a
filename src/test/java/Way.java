import java.util.ArrayList;
import java.util.HashSet;
import java.util.Iterator;
import java.util.List;
import java.util.Set;

/** How calls come by an object, however deep it lies: from a variable or the waiting row, step by step. */
interface Way {
    int VARIABLES = 6;

    /** From what a variable holds. */
    record Variable(int v) implements Way {
    }

    /** From the waiting object before which so many others stand. */
    record Waiting(int before) implements Way {
    }

    /** On to what field k of the VECTOR holds, or to the target of the WEAK. */
    record Part(Way whole, int k) implements Way {
    }

    /** On to the value under the key. */
    record Entry(Way table, Way key) implements Way {
    }

    /** Whether the six variables are enough: each beginning is used up on the way, so it needs one of its own. */
    default boolean isOpen() {
        return beginnings().size() <= VARIABLES;
    }

    /** Makes the calls that bring the object into a variable, and answers which. */
    default int walk(Object heap) {
        List<Way> beginnings = beginnings();
        int[] variables = variablesFor(beginnings);
        copyVariables(heap, beginnings, variables);
        takeFromRow(heap, beginnings, variables);
        List<Integer> inOrder = new ArrayList<>();
        for (int v : variables) {
            inOrder.add(v);
        }
        return step(heap, this, inOrder.iterator());
    }

    private List<Way> beginnings() {
        List<Way> found = new ArrayList<>();
        addBeginnings(this, found);
        return found;
    }

    private static void addBeginnings(Way way, List<Way> found) {
        if (way instanceof Part part) {
            addBeginnings(part.whole(), found);
        } else if (way instanceof Entry entry) {
            addBeginnings(entry.table(), found);
            addBeginnings(entry.key(), found);
        } else {
            found.add(way);
        }
    }

    /** A variable that is a beginning stays what it is; all other beginnings go where no beginning stands. */
    private static int[] variablesFor(List<Way> beginnings) {
        int[] variables = new int[beginnings.size()];
        Set<Integer> taken = new HashSet<>();
        for (int i = 0; i < variables.length; i++) {
            variables[i] = beginnings.get(i) instanceof Variable own && taken.add(own.v()) ? own.v() : -1;
        }
        int free = 0;
        for (int i = 0; i < variables.length; i++) {
            while (variables[i] < 0) {
                variables[i] = taken.add(free) ? free : -1;
                free++;
            }
        }
        return variables;
    }

    private static void copyVariables(Object heap, List<Way> beginnings, int[] variables) {
        for (int i = 0; i < variables.length; i++) {
            if (beginnings.get(i) instanceof Variable from && from.v() != variables[i]) {
                Ask.of(heap, "assign", variables[i], from.v());
            }
        }
    }

    private static void takeFromRow(Object heap, List<Way> beginnings, int[] variables) {
        int longest = 0;
        for (Way beginning : beginnings) {
            longest = beginning instanceof Waiting w ? Math.max(longest, w.before() + 1) : longest;
        }
        for (int before = 0; before < longest; before++) {
            takeFirst(heap, beginnings.indexOf(new Waiting(before)), before, beginnings, variables);
        }
    }

    /** One that no way begins at goes where a later one will be put, so that nothing else is lost. */
    private static void takeFirst(Object heap, int wanted, int before, List<Way> beginnings, int[] variables) {
        int into = -1;
        for (int i = 0; i < variables.length && into < 0; i++) {
            boolean later = beginnings.get(i) instanceof Waiting w && w.before() > before;
            into = i == wanted || (wanted < 0 && later) ? variables[i] : -1;
        }
        Ask.of(heap, "next", into);
        for (int i = 0; i < variables.length; i++) {
            if (beginnings.get(i).equals(new Waiting(before)) && variables[i] != into) {
                Ask.of(heap, "assign", variables[i], into);
            }
        }
    }

    private static int step(Object heap, Way way, Iterator<Integer> variables) {
        if (way instanceof Part part) {
            int x = step(heap, part.whole(), variables);
            Ask.of(heap, "get", x, x, part.k());
            return x;
        }
        if (way instanceof Entry entry) {
            int x = step(heap, entry.table(), variables);
            int key = step(heap, entry.key(), variables);
            Ask.of(heap, "find", x, x, key);
            return x;
        }
        return variables.next();
    }
}
