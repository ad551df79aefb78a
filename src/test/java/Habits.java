import java.util.Random;

/** Pseudo-random calls, the same for the same seed; the habits differ in how soon things are dropped or full. */
final class Habits {
    static final int COUNT = 4;
    private static final String[] METHODS = {
        "number", "assign", "drop", "make", "put", "find", "set", "get", "register", "next", "collect"};
    private static final int[][] SHARES = {
        {1, 1, 1, 1, 1, 1, 1, 1, 1, 1, 1},
        {1, 2, 1, 8, 6, 2, 8, 2, 3, 1, 0},
        {1, 2, 4, 8, 6, 3, 6, 4, 6, 2, 2},
        {1, 1, 6, 6, 8, 2, 8, 2, 8, 6, 4},
    };

    private Habits() {
    }

    static Call next(Random random, int habit) {
        String method = method(random, SHARES[habit % COUNT]);
        int a = variable(random);
        int b = variable(random);
        return switch (method) {
            case "number" -> new Call(method, a, number(random));
            case "assign" -> new Call(method, a, b);
            case "drop" -> new Call("assign", a, -1);
            case "make" -> making(random, a, b);
            case "put", "find" -> new Call(method, a, b, variable(random));
            case "set" -> new Call(method, a, field(random), b);
            case "get" -> new Call(method, a, b, field(random));
            case "register" -> new Call(method, a, random.nextInt(104) - 2);
            case "next" -> new Call(method, a);
            default -> new Call(method);
        };
    }

    private static String method(Random random, int[] shares) {
        int all = 0;
        for (int share : shares) {
            all += share;
        }
        int left = random.nextInt(all);
        int choice = 0;
        while (left >= shares[choice]) {
            left -= shares[choice];
            choice++;
        }
        return METHODS[choice];
    }

    private static Call making(Random random, int v, int w) {
        int n = random.nextInt(12) == 0 ? random.nextInt(9) - 2 : 1 + random.nextInt(4);
        return switch (random.nextInt(4)) {
            case 0, 1 -> new Call("vector", v, n);
            case 2 -> new Call("weak", v, w);
            default -> new Call("table", v);
        };
    }

    private static int number(Random random) {
        return random.nextInt(8) == 0 ? random.nextInt() : random.nextInt(2000003) - 1000001;
    }

    private static int variable(Random random) {
        return random.nextInt(40) == 0 ? random.nextInt(12) - 3 : random.nextInt(6);
    }

    private static int field(Random random) {
        return random.nextInt(20) == 0 ? random.nextInt(9) - 3 : random.nextInt(3);
    }
}
