import java.util.Arrays;

/** The stacks of 0 .. 5 formulas that the tests start from. */
final class Five {
    /** No two alike and none symmetric in its variables, so that a mistaken place or variable shows. */
    static final Checks.Formula[] ALL = {
        (p, q, r) -> 2 * p - 3 * q + r <= 4,
        (p, q, r) -> Math.floorMod(p + 2 * q - r - 1, 3) == 0,
        (p, q, r) -> p - 2 * q + 3 * r <= 5,
        (p, q, r) -> Math.floorMod(3 * p - q + 2 * r - 2, 5) == 0,
        (p, q, r) -> -p + 4 * q - 2 * r <= -1,
    };

    private Five() {
    }

    /** Puts the first so many of them on the stack. */
    static Checks.Steps push(int many) {
        return x -> {
            for (int which = 0; which < many; which++) {
                pushOne(x, which);
            }
        };
    }

    private static void pushOne(PresburgerAuto x, int which) {
        switch (which) {
            case 0 -> x.atMost(2, -3, 1, 4);
            case 1 -> x.congruent(coefficients(1, 2, -1), 3, 1);
            case 2 -> x.atMost(1, -2, 3, 5);
            case 3 -> x.congruent(coefficients(3, -1, 2), 5, 2);
            default -> x.atMost(-1, 4, -2, -1);
        }
    }

    static Checks.Formula[] first(int many) {
        return Arrays.copyOf(ALL, many);
    }

    /** The first so many with one more on top. */
    static Checks.Formula[] firstAnd(int many, Checks.Formula top) {
        Checks.Formula[] stack = Arrays.copyOf(ALL, many + 1);
        stack[many] = top;
        return stack;
    }

    static int coefficients(int a, int b, int c) {
        return 81 * (a + 4) + 9 * (b + 4) + (c + 4);
    }
}
