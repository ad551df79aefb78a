import java.util.ArrayList;
import java.util.List;
import java.util.Random;

/** The sentences of "Not promised": each leaves something open, and its test shows what is promised beside it. */
final class LimitsBounds {
    private static final int THREADS = 4;
    private static final int CALLS = 400;

    private LimitsBounds() {
    }

    static void all(Sentences told) {
        told.section("Not promised");
        told.test("How the state is held inside the object is free, as are the speed of each call, "
            + "the text of toString and the behaviour of equals and hashCode.", LimitsBounds::javasOwnMethods);
        told.test("Use of one object from several threads at once is not promised to be safe.",
            LimitsBounds::oneObjectForEachThread);
        told.test("Nothing is promised beyond the answers and state changes described above,",
            LimitsBounds::askingChangesNothing);
        told.test("and nothing about an object after its 512th call.", LimitsBounds::lastCallIsDueAndLaterOnesComeBack);
    }

    /** Whatever they answer, they come back, and the document tells no change of state by them. */
    private static void javasOwnMethods(Trial t) {
        Scenes.nested(t);
        t.touchesNothing("toString, equals and hashCode", heap -> {
            heap.toString();
            heap.hashCode();
            heap.equals(heap);
            heap.equals(new ResurrectingHeap());
            heap.equals(null);
        });
        t.is(9, "hash", 4);
    }

    /** Objects share nothing, so threads with an object each get the answers that one thread would get. */
    private static void oneObjectForEachThread(Trial t) {
        List<List<Call>> runs = new ArrayList<>();
        List<List<String>> due = new ArrayList<>();
        for (int i = 0; i < THREADS; i++) {
            Random random = new Random(i);
            List<Call> calls = new ArrayList<>();
            while (calls.size() < CALLS) {
                calls.add(Habits.next(random, i));
            }
            runs.add(calls);
            due.add(answers(new HeapModel(), calls));
        }
        List<List<String>> got = runs.parallelStream().map(calls -> answers(new ResurrectingHeap(), calls)).toList();
        for (int i = 0; i < THREADS; i++) {
            t.compare("answers in thread " + i, got.get(i).toString(), due.get(i).toString());
        }
    }

    private static List<String> answers(Object heap, List<Call> calls) {
        List<String> answers = new ArrayList<>();
        for (Call call : calls) {
            answers.add(call.answerOf(heap));
        }
        return answers;
    }

    private static void askingChangesNothing(Trial t) {
        Scenes.nested(t);
        int[][] due = {
            {0, 1, 2, 3, 4, 2}, {0, 7, 0, 0, 0, 0}, {0, 0, 7, 8, 9, 11},
            {-1, -1, 26, 31, 34, 45}, {-1, -1, 3, 1, 2, 1}};
        String[] methods = {"kind", "value", "hash", "place", "size"};
        for (int i = 0; i < methods.length; i++) {
            for (int v = 0; v < 6; v++) {
                t.asks(due[i][v], methods[i], v);
            }
        }
        t.asks(54, "used");
        t.asks(2, "waiting");
        t.asks(1, "collections");
    }

    private static void lastCallIsDueAndLaterOnesComeBack(Trial t) {
        t.is(1, "vector", 0, 1);
        t.yes("register", 0, 99);
        t.drop(0);
        while (t.callsSoFar() < 511) {
            t.is(0, "collect");
        }
        t.is(99, "next", 5);
        for (int v = 0; v < 6; v++) {
            t.free("table", v);
            t.free("put", v, v, v);
            t.free("register", v, v);
            t.free("number", v, v);
            t.free("collect");
            t.free("next", v);
            t.free("size", v);
        }
    }
}
