/** Questions to a heap, of the class or of the model, whose answers are needed as numbers. */
final class Ask {
    private Ask() {
    }

    /** A truth counts 1 or 0. What is thrown is thrown on: there is no answer to go on with. */
    static int of(Object heap, String method, int... with) {
        String answer = new Call(method, with).answerOf(heap);
        if (answer.equals("true") || answer.equals("false")) {
            return answer.equals("true") ? 1 : 0;
        }
        try {
            return Integer.parseInt(answer);
        } catch (NumberFormatException thrown) {
            throw new IllegalStateException(new Call(method, with) + " answered " + answer);
        }
    }
}
