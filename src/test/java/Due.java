/** Compares answers with the ones that are due, prints those that differ, and ends the test by its count. */
final class Due {
    private String promise = "";
    private int compared = 0;
    private int wrong = 0;

    void promise(String name) {
        promise = name;
    }

    void is(String call, long got, long want) {
        same(call, Long.toString(got), Long.toString(want));
    }

    void yes(String call, boolean got) {
        same(call, Boolean.toString(got), "true");
    }

    void no(String call, boolean got) {
        same(call, Boolean.toString(got), "false");
    }

    void same(String call, String got, String want) {
        compared++;
        if (!got.equals(want)) {
            wrong++;
            System.out.println(promise + ": " + call + " answered " + got + ", due is " + want);
        }
    }

    int wrongSoFar() {
        return wrong;
    }

    int comparedSoFar() {
        return compared;
    }

    void end() {
        System.out.println(compared + " answers, " + wrong + " not as due");
        if (wrong != 0 || compared == 0) {
            System.exit(1);
        }
    }
}
