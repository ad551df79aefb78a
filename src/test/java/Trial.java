import java.lang.reflect.InvocationTargetException;
import java.lang.reflect.Method;
import java.util.ArrayList;
import java.util.HashMap;
import java.util.List;
import java.util.Map;
import java.util.function.Supplier;

/**
 * A heap that is called by the names of the document's methods, with the answer that is due. It remembers
 * what it has heard, so that a heap can be made again that has heard the same.
 */
final class Trial {
    private static final int LAST_CALL = 512;
    private static final Map<String, Method> METHODS = new HashMap<>();

    static {
        for (Method method : ResurrectingHeap.class.getMethods()) {
            if (method.getDeclaringClass() == ResurrectingHeap.class) {
                METHODS.put(method.getName(), method);
            }
        }
    }

    private record Call(String method, int[] with) {
        String answerOf(ResurrectingHeap heap) {
            Object[] boxed = new Object[with.length];
            for (int i = 0; i < with.length; i++) {
                boxed[i] = with[i];
            }
            try {
                return String.valueOf(METHODS.get(method).invoke(heap, boxed));
            } catch (InvocationTargetException thrown) {
                return String.valueOf(thrown.getCause());
            } catch (IllegalAccessException hidden) {
                return hidden.toString();
            }
        }

        @Override
        public String toString() {
            StringBuilder text = new StringBuilder(method).append('(');
            for (int i = 0; i < with.length; i++) {
                text.append(i == 0 ? "" : ", ").append(with[i]);
            }
            return text.append(')').toString();
        }
    }

    private final Due due;
    private final ResurrectingHeap heap = new ResurrectingHeap();
    private final List<Call> heard = new ArrayList<>();
    private String insight = "";

    Trial(Due due) {
        this.due = due;
    }

    /** A new heap under the same sentence. */
    Trial another() {
        return new Trial(due);
    }

    void is(long want, String method, int... with) {
        answers(Long.toString(want), method, with);
    }

    void yes(String method, int... with) {
        answers("true", method, with);
    }

    /** The call is refused with false or REFUSED, as its kind of answer says, and nothing has changed by it. */
    void refused(String method, int... with) {
        boolean tellsTruth = METHODS.get(method).getReturnType() == boolean.class;
        refusedWith(tellsTruth ? "false" : "-1", method, with);
    }

    /** The call answers 0, as value and hash do where others refuse, and nothing has changed by it. */
    void zero(String method, int... with) {
        refusedWith("0", method, with);
    }

    void drop(int... variables) {
        for (int v : variables) {
            yes("assign", v, -1);
        }
    }

    /** A call whose answer is free; it must only come back. */
    void free(String method, int... with) {
        Call call = new Call(method, with);
        String got = call.answerOf(heap);
        heard.add(call);
        due.same(call + " came back", got.contains("Exception") || got.contains("Error") ? got : "", "");
    }

    int heardCalls() {
        return heard.size();
    }

    private void answers(String want, String method, int... with) {
        Call call = new Call(method, with);
        due.same(told(call), call.answerOf(heap), want);
        heard.add(call);
        insight = "";
        if (heard.size() > LAST_CALL) {
            due.same(told(call), "asked after the last call", "asked within " + LAST_CALL + " calls");
        }
    }

    /** A refused call is not remembered: what is made again by the others must be the same heap. */
    private void refusedWith(String want, String method, int... with) {
        if (insight.isEmpty()) {
            insight = asked(this::again);
        }
        Call call = new Call(method, with);
        due.same(told(call), call.answerOf(heap), want);
        due.same("all that can be asked after the refused " + told(call), asked(() -> againAndThen(call)), insight);
    }

    private String asked(Supplier<ResurrectingHeap> same) {
        try {
            return Insight.of(same);
        } catch (RuntimeException thrown) {
            due.same("a question after call " + heard.size(), thrown.toString(), "an answer");
            return thrown.toString();
        }
    }

    private ResurrectingHeap again() {
        ResurrectingHeap made = new ResurrectingHeap();
        for (Call call : heard) {
            call.answerOf(made);
        }
        return made;
    }

    private ResurrectingHeap againAndThen(Call call) {
        ResurrectingHeap made = again();
        call.answerOf(made);
        return made;
    }

    private String told(Call call) {
        return "call " + (heard.size() + 1) + ", " + call + ",";
    }
}
