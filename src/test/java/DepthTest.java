import java.util.ArrayList;
import java.util.List;
import java.util.Random;

/**
 * Fixed runs of calls, and what calls can find out after them at every depth: it is what the model says, and
 * a call that is to change nothing, or nothing but what a collection does, changes nothing else.
 */
public final class DepthTest {
    private static final int RUNS = 120;
    private static final int FEWEST_CALLS = 20;
    private static final int REFUSALS_EACH = 40;
    private static final int MOST_OBJECTS = 20;
    private static final Due DUE = new Due();
    private static final int[] ARGUMENTS = {
        -1, 0, 1, 2, 3, 4, 5, 6, 0, 1, 2, 3, 4, 5, 7, -2, 99, 100, 1000001, Integer.MIN_VALUE, Integer.MAX_VALUE};
    private static int refusals = 0;
    private static int fulls = 0;
    private static int collectionsFirst = 0;

    public static void main(String[] args) {
        for (int run = 0; run < RUNS; run++) {
            DUE.promise("run " + run);
            Random random = new Random(run);
            Story story = story(random, run);
            String before = insight(story);
            DUE.same("all that can be asked", before, Insight.of(story::model));
            askingChangesNothing(story, before);
            refusalsChangeNothing(random, story, before);
            makingChangesNothingElse(story);
            makingChangesNothingElse(filled(random, story));
        }
        DUE.promise("what the runs have met");
        DUE.is("refused calls", refusals, RUNS * REFUSALS_EACH);
        DUE.yes("calls that answered FULL", fulls > 100);
        DUE.yes("calls that made a collection and an object", collectionsFirst > 100);
        System.out.println(fulls + " times FULL, " + collectionsFirst + " times a collection first");
        DUE.end();
    }

    private static Story story(Random random, int run) {
        List<Call> calls = new ArrayList<>();
        for (int left = FEWEST_CALLS + run; left > 0; left--) {
            calls.add(Habits.next(random, run));
        }
        return new Story(calls);
    }

    /** Variable 1 holds what is added, until a call answers FULL: then its VECTOR holds itself and loses the rest. */
    private static Story filled(Random random, Story story) {
        Story longer = story;
        for (int added = 0; added < MOST_OBJECTS; added++) {
            longer = longer.and(
                new Call("vector", 0, 1 + random.nextInt(4)), new Call("set", 0, 0, 1), new Call("assign", 1, 0));
        }
        return longer;
    }

    private static void askingChangesNothing(Story story, String before) {
        for (String method : new String[] {"used", "waiting", "collections"}) {
            unchangedBy(new Call(method), story, before);
        }
        for (String method : new String[] {"kind", "value", "hash", "place", "size"}) {
            for (int v = -1; v <= 6; v++) {
                unchangedBy(new Call(method, v), story, before);
            }
        }
    }

    private static void refusalsChangeNothing(Random random, Story story, String before) {
        int refused = 0;
        while (refused < REFUSALS_EACH) {
            Call call = anyCall(random);
            String answer = call.answerOf(story.model());
            if (answer.equals("false") || answer.equals("-1")) {
                DUE.same(call.toString(), call.answerOf(story.heap()), answer);
                unchangedBy(call, story, before);
                refused++;
            }
        }
        refusals += refused;
    }

    private static Call anyCall(Random random) {
        int a = ARGUMENTS[random.nextInt(ARGUMENTS.length)];
        int b = ARGUMENTS[random.nextInt(ARGUMENTS.length)];
        int c = ARGUMENTS[random.nextInt(ARGUMENTS.length)];
        String[] ofOne = {"table", "next"};
        String[] ofTwo = {"number", "assign", "vector", "weak", "register"};
        String[] ofThree = {"set", "get", "put", "find"};
        int choice = random.nextInt(ofOne.length + ofTwo.length + ofThree.length);
        if (choice < ofOne.length) {
            return new Call(ofOne[choice], a);
        }
        choice -= ofOne.length;
        if (choice < ofTwo.length) {
            return new Call(ofTwo[choice], a, b);
        }
        return new Call(ofThree[choice - ofTwo.length], a, b, c);
    }

    private static void unchangedBy(Call call, Story story, String before) {
        DUE.same("all that can be asked after " + call, insight(story.and(call)), before);
    }

    private static String insight(Story story) {
        String all = Insight.of(story::heap);
        DUE.no("something could not be looked at", all.contains(Picture.SHUT));
        return all;
    }

    private static void makingChangesNothingElse(Story story) {
        for (int v = 0; v < 6; v++) {
            nothingElseBy(new Call("vector", v, 4), story);
            nothingElseBy(new Call("weak", v, 5 - v), story);
            nothingElseBy(new Call("table", v), story);
        }
    }

    /** FULL is a collection and no more; with cells enough after a collection, it is as if that had been asked for. */
    private static void nothingElseBy(Call making, Story story) {
        ResurrectingHeap heap = story.heap();
        int collections = heap.collections();
        String answer = making.answerOf(heap);
        Story collected = story.and(new Call("collect"));
        if (answer.equals("-2")) {
            fulls++;
            unchangedBy(making, story, insight(collected));
        } else if (heap.collections() > collections) {
            collectionsFirst++;
            unchangedBy(making, story, insight(collected.and(making)));
        }
    }
}
