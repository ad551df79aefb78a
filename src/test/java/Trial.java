import java.util.ArrayList;
import java.util.List;
import java.util.function.Consumer;
import java.util.function.Supplier;

/**
 * A heap that is called by the names of the document's methods, with the answer that is due. It remembers
 * what it has heard, so that a heap can be made again that has heard the same.
 */
final class Trial {
    private static final int LAST_CALL = 512;
    /** The questions after a call that changes nothing are calls too, some ninety at most. */
    private static final int LAST_WITH_QUESTIONS = 400;

    private final Due due;
    private final ResurrectingHeap heap = new ResurrectingHeap();
    private final List<Call> heard = new ArrayList<>();
    private int allCalls = 0;
    private String insight = "";

    Trial(Due due) {
        this.due = due;
    }

    /** A new heap under the same sentence. */
    Trial another() {
        return new Trial(due);
    }

    void is(long want, String method, int... with) {
        answers(Long.toString(want), method, with);
    }

    void yes(String method, int... with) {
        answers("true", method, with);
    }

    /** The call is refused with false or REFUSED, as its kind of answer says, and nothing has changed by it. */
    void refused(String method, int... with) {
        Call call = new Call(method, with);
        changesNothing(call.answersTruth() ? "false" : "-1", call);
    }

    /** The call answers 0, as value and hash do where others refuse, and nothing has changed by it. */
    void zero(String method, int... with) {
        changesNothing("0", new Call(method, with));
    }

    /** The call tells something, and nothing has changed by it. */
    void asks(long want, String method, int... with) {
        changesNothing(Long.toString(want), new Call(method, with));
    }

    /** Something is done to the heap that is no call of the document; nothing has changed by it. */
    void touchesNothing(String name, Consumer<ResurrectingHeap> touch) {
        Story before = new Story(heard);
        String after = asked(() -> {
            ResurrectingHeap touched = before.heap();
            touch.accept(touched);
            return touched;
        });
        due.same("all that can be asked after " + name, after, asked(before::heap));
    }

    void compare(String what, String got, String want) {
        due.same(what, got, want);
    }

    void drop(int... variables) {
        for (int v : variables) {
            yes("assign", v, -1);
        }
    }

    /** A call whose answer is free; it must only come back. */
    void free(String method, int... with) {
        Call call = new Call(method, with);
        String got = call.answerOf(heap);
        due.same(call + " came back", got.contains("Exception") || got.contains("Error") ? got : "", "");
    }

    int callsSoFar() {
        return allCalls;
    }

    private void answers(String want, String method, int... with) {
        Call call = new Call(method, with);
        due.same(told(call), call.answerOf(heap), want);
        heard.add(call);
        insight = "";
        count(LAST_CALL);
    }

    /** The call is not remembered: what is made again by the others must be the same heap. */
    private void changesNothing(String want, Call call) {
        Story before = new Story(heard);
        if (insight.isEmpty()) {
            insight = asked(before::heap);
        }
        due.same(told(call), call.answerOf(heap), want);
        due.same("all that can be asked after " + told(call), asked(before.and(call)::heap), insight);
        count(LAST_WITH_QUESTIONS);
    }

    private String asked(Supplier<ResurrectingHeap> same) {
        try {
            String all = Insight.of(same);
            due.no("after call " + allCalls + " something could not be looked at", all.contains(Picture.SHUT));
            return all;
        } catch (IllegalStateException thrown) {
            due.same("a question after call " + allCalls, thrown.getMessage(), "an answer");
            return thrown.getMessage();
        }
    }

    private void count(int last) {
        allCalls++;
        if (allCalls > last) {
            due.same("call " + allCalls, "asked too late", "asked as one of " + last);
        }
    }

    private String told(Call call) {
        return "call " + (allCalls + 1) + ", " + call + ",";
    }
}
