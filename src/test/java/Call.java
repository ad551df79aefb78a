import java.lang.reflect.InvocationTargetException;
import java.lang.reflect.Method;
import java.util.HashMap;
import java.util.Map;

/** A call by the name of the document's method, on the class or on the model, which has methods of the same names. */
record Call(String method, int... with) {
    private static final Map<String, Method> OF_CLASS = new HashMap<>();
    private static final Map<String, Method> OF_MODEL = new HashMap<>();

    static {
        for (Method method : ResurrectingHeap.class.getMethods()) {
            if (method.getDeclaringClass() == ResurrectingHeap.class) {
                OF_CLASS.put(method.getName(), method);
            }
        }
        for (Method method : HeapModel.class.getDeclaredMethods()) {
            if (OF_CLASS.containsKey(method.getName())) {
                OF_MODEL.put(method.getName(), method);
            }
        }
    }

    /** What the heap answers, or what it throws, as a text. */
    String answerOf(Object heap) {
        try {
            return String.valueOf(methodOf(heap).invoke(heap, boxed()));
        } catch (InvocationTargetException thrown) {
            return String.valueOf(thrown.getCause());
        } catch (IllegalAccessException hidden) {
            return hidden.toString();
        }
    }

    boolean answersTruth() {
        return OF_CLASS.get(method).getReturnType() == boolean.class;
    }

    private Method methodOf(Object heap) {
        return (heap instanceof HeapModel ? OF_MODEL : OF_CLASS).get(method);
    }

    private Object[] boxed() {
        Object[] boxed = new Object[with.length];
        for (int i = 0; i < with.length; i++) {
            boxed[i] = with[i];
        }
        return boxed;
    }

    @Override
    public String toString() {
        StringBuilder text = new StringBuilder(method).append('(');
        for (int i = 0; i < with.length; i++) {
            text.append(i == 0 ? "" : ", ").append(with[i]);
        }
        return text.append(')').toString();
    }
}
