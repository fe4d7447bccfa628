/** Each promise of the document by its number: ordinary inputs, edges, wrong inputs. */
public final class PromisesTest {
    private static final Checks CHECKS = new Checks();
    private static final int LEAST = Integer.MIN_VALUE;
    private static final int GREATEST = Integer.MAX_VALUE;

    private static final Checks.Steps NOTHING = x -> { };
    private static final Checks.Formula ALWAYS = (p, q, r) -> true;
    private static final Checks.Formula NEVER = (p, q, r) -> false;

    // Five formulas, no two alike and none symmetric in its variables.
    private static final Checks.Formula[] FIVE = {
        (p, q, r) -> 2 * p - 3 * q + r <= 4,
        (p, q, r) -> Math.floorMod(p + 2 * q - r - 1, 3) == 0,
        (p, q, r) -> p - 2 * q + 3 * r <= 5,
        (p, q, r) -> Math.floorMod(3 * p - q + 2 * r - 2, 5) == 0,
        (p, q, r) -> -p + 4 * q - 2 * r <= -1,
    };

    private static void pushOfFive(PresburgerAuto x, int which) {
        switch (which) {
            case 0 -> x.atMost(2, -3, 1, 4);
            case 1 -> x.congruent(coefficients(1, 2, -1), 3, 1);
            case 2 -> x.atMost(1, -2, 3, 5);
            case 3 -> x.congruent(coefficients(3, -1, 2), 5, 2);
            default -> x.atMost(-1, 4, -2, -1);
        }
    }

    private static Checks.Steps push(int many) {
        return x -> {
            for (int which = 0; which < many; which++) {
                pushOfFive(x, which);
            }
        };
    }

    private static Checks.Formula[] first(int many) {
        return java.util.Arrays.copyOf(FIVE, many);
    }

    /** The first formulas of FIVE with one more on top. */
    private static Checks.Formula[] firstAnd(int many, Checks.Formula top) {
        Checks.Formula[] stack = java.util.Arrays.copyOf(FIVE, many + 1);
        stack[many] = top;
        return stack;
    }

    private static int coefficients(int a, int b, int c) {
        return 81 * (a + 4) + 9 * (b + 4) + (c + 4);
    }

    /** The formula asked of the triple in which variable v has another value. */
    private static boolean with(Checks.Formula f, int[] triple, int v, int value) {
        int[] changed = triple.clone();
        changed[v] = value;
        return f.of(changed[0], changed[1], changed[2]);
    }

    private static Checks.Formula some(Checks.Formula f, int v) {
        return (p, q, r) -> {
            for (int value = 0; value <= 7; value++) {
                if (with(f, new int[] {p, q, r}, v, value)) {
                    return true;
                }
            }
            return false;
        };
    }

    private static Checks.Formula every(Checks.Formula f, int v) {
        return (p, q, r) -> !some((s, t, u) -> !f.of(s, t, u), v).of(p, q, r);
    }

    private static Checks.Formula exchanged(Checks.Formula f, int u, int v) {
        return (p, q, r) -> {
            int[] old = {p, q, r};
            int[] changed = {p, q, r};
            changed[u] = old[v];
            changed[v] = old[u];
            return f.of(changed[0], changed[1], changed[2]);
        };
    }

    private static Checks.Formula mirrored(Checks.Formula f, int v) {
        return (p, q, r) -> {
            int[] triple = {p, q, r};
            return with(f, triple, v, 7 - triple[v]);
        };
    }

    private static void promise1ANewObject() {
        CHECKS.dueAnswer("new: depth()", NOTHING, x -> x.depth(), 0);
        CHECKS.dueOnly("new: count(0)", NOTHING, x -> x.count(0), -1);
        CHECKS.dueOnly("new: drop()", NOTHING, x -> x.drop(), -1);
        PresburgerAuto used = new PresburgerAuto();
        push(5).on(used);
        PresburgerAuto other = new PresburgerAuto();
        CHECKS.due("depth() of a second object", other.depth(), 0);
        other.atMost(0, 0, 0, -1);
        CHECKS.due("count(0) of the first object", used.count(0), Checks.size(FIVE[0]));
    }

    private static void promise2Depth() {
        for (int many = 0; many <= 5; many++) {
            CHECKS.dueAnswer("depth() of " + many, push(many), x -> x.depth(), many, first(many));
        }
        CHECKS.dueOnly("depth() after a refused call", push(5), x -> {
            x.atMost(1, 1, 1, 1);
            return x.depth();
        }, 5);
    }

    private static void promise3AtMost() {
        int[] bounds = {-100, -84, -29, -1, 0, 1, 7, 84, 100};
        for (int a = -4; a <= 4; a++) {
            for (int b = -4; b <= 4; b++) {
                for (int c = -4; c <= 4; c++) {
                    atMostHolds(a, b, c, bounds[(a * 81 + b * 9 + c + 364) % bounds.length]);
                    atMostHolds(a, b, c, a - 2 * b + c);
                }
            }
        }
        for (int k : bounds) {
            atMostHolds(4, -4, 3, k);
            atMostHolds(0, 0, 0, k);
        }
        for (int many = 0; many < 5; many++) {
            CHECKS.dueAnswer("atMost on " + many, push(many), x -> x.atMost(1, -2, 3, 5),
                    many + 1, firstAnd(many, FIVE[2]));
        }
        atMostRefuses();
    }

    private static void atMostHolds(int a, int b, int c, int k) {
        String label = "atMost(" + a + ", " + b + ", " + c + ", " + k + ")";
        CHECKS.dueAnswer(label, NOTHING, x -> x.atMost(a, b, c, k), 1,
                (p, q, r) -> a * p + b * q + c * r <= k);
    }

    private static void atMostRefuses() {
        for (int bad : new int[] {-5, 5, LEAST, GREATEST}) {
            for (int many : new int[] {0, 2, 5}) {
                String label = "atMost with coefficient " + bad + " on " + many;
                CHECKS.dueAnswer(label, push(many), x -> x.atMost(bad, 0, 0, 0), -1, first(many));
                CHECKS.dueAnswer(label, push(many), x -> x.atMost(0, bad, 0, 0), -1, first(many));
                CHECKS.dueAnswer(label, push(many), x -> x.atMost(0, 0, bad, 101), -1, first(many));
            }
        }
        for (int bad : new int[] {-101, 101, LEAST, GREATEST}) {
            for (int many : new int[] {0, 2, 5}) {
                CHECKS.dueAnswer("atMost with k " + bad + " on " + many, push(many),
                        x -> x.atMost(4, -4, 4, bad), -2, first(many));
            }
        }
        CHECKS.dueAnswer("atMost on 5", push(5), x -> x.atMost(0, 0, 0, 0), -3, FIVE);
    }

    private static void promise4Congruent() {
        for (int modulus = 2; modulus <= 7; modulus++) {
            for (int rest = 0; rest < modulus; rest++) {
                for (int coefficients = 0; coefficients <= 728; coefficients++) {
                    congruentHolds(coefficients, modulus, rest);
                }
            }
        }
        for (int many = 0; many < 5; many++) {
            CHECKS.dueAnswer("congruent on " + many, push(many),
                    x -> x.congruent(coefficients(1, 2, -1), 3, 1), many + 1, firstAnd(many, FIVE[1]));
        }
        congruentRefuses();
    }

    private static void congruentHolds(int coefficients, int modulus, int rest) {
        int a = coefficients / 81 - 4;
        int b = coefficients / 9 % 9 - 4;
        int c = coefficients % 9 - 4;
        String label = "congruent(" + coefficients + ", " + modulus + ", " + rest + ")";
        CHECKS.dueAnswer(label, NOTHING, x -> x.congruent(coefficients, modulus, rest), 1,
                (p, q, r) -> Math.floorMod(a * p + b * q + c * r, modulus) == rest);
    }

    private static void congruentRefuses() {
        for (int many : new int[] {0, 2, 5}) {
            for (int bad : new int[] {-1, 729, LEAST, GREATEST}) {
                CHECKS.dueAnswer("congruent(" + bad + ", 2, 0) on " + many, push(many),
                        x -> x.congruent(bad, 2, 0), -1, first(many));
                CHECKS.dueAnswer("congruent(" + bad + ", 0, -1) on " + many, push(many),
                        x -> x.congruent(bad, 0, -1), -1, first(many));
            }
            for (int bad : new int[] {0, 1, 8, -2, LEAST, GREATEST}) {
                CHECKS.dueAnswer("congruent(364, " + bad + ", 0) on " + many, push(many),
                        x -> x.congruent(364, bad, 0), -2, first(many));
                CHECKS.dueAnswer("congruent(364, " + bad + ", -1) on " + many, push(many),
                        x -> x.congruent(364, bad, -1), -2, first(many));
            }
            for (int modulus = 2; modulus <= 7; modulus++) {
                int m = modulus;
                for (int bad : new int[] {-1, m, LEAST, GREATEST}) {
                    CHECKS.dueAnswer("congruent(364, " + m + ", " + bad + ") on " + many, push(many),
                            x -> x.congruent(364, m, bad), -3, first(many));
                }
            }
        }
        CHECKS.dueAnswer("congruent on 5", push(5), x -> x.congruent(364, 2, 1), -4, FIVE);
    }

    private static void promise5Connect() {
        for (int many = 1; many <= 5; many++) {
            Checks.Formula top = FIVE[many - 1];
            CHECKS.dueAnswer("connect(NOT) on " + many, push(many), x -> x.connect(PresburgerAuto.NOT),
                    many, firstAnd(many - 1, (p, q, r) -> !top.of(p, q, r)));
        }
        for (int many = 2; many <= 5; many++) {
            Checks.Formula a = FIVE[many - 2];
            Checks.Formula b = FIVE[many - 1];
            connectJoins(many, PresburgerAuto.AND, (p, q, r) -> a.of(p, q, r) && b.of(p, q, r));
            connectJoins(many, PresburgerAuto.OR, (p, q, r) -> a.of(p, q, r) || b.of(p, q, r));
            connectJoins(many, PresburgerAuto.XOR, (p, q, r) -> a.of(p, q, r) ^ b.of(p, q, r));
            connectJoins(many, PresburgerAuto.IMPLIES, (p, q, r) -> !a.of(p, q, r) || b.of(p, q, r));
        }
        for (int bad : new int[] {-1, 5, LEAST, GREATEST}) {
            for (int many = 0; many <= 5; many++) {
                CHECKS.dueAnswer("connect(" + bad + ") on " + many, push(many),
                        x -> x.connect(bad), -1, first(many));
            }
        }
        CHECKS.dueAnswer("connect(NOT) on 0", NOTHING, x -> x.connect(PresburgerAuto.NOT), -2);
        for (int kind = PresburgerAuto.AND; kind <= PresburgerAuto.IMPLIES; kind++) {
            int k = kind;
            CHECKS.dueAnswer("connect(" + k + ") on 0", NOTHING, x -> x.connect(k), -2);
            CHECKS.dueAnswer("connect(" + k + ") on 1", push(1), x -> x.connect(k), -2, first(1));
        }
    }

    private static void connectJoins(int many, int kind, Checks.Formula joined) {
        CHECKS.dueAnswer("connect(" + kind + ") on " + many, push(many), x -> x.connect(kind),
                many - 1, firstAnd(many - 2, joined));
    }

    private static void promise6Exists() {
        for (int v = 0; v <= 2; v++) {
            int u = v;
            for (int many = 1; many <= 5; many++) {
                Checks.Formula want = some(FIVE[many - 1], u);
                CHECKS.dueAnswer("exists(" + u + ") on " + many, push(many), x -> x.exists(u),
                        Checks.size(want), firstAnd(many - 1, want));
            }
            for (int number : new int[] {0, 7, 56, 448, 511, 290}) {
                CHECKS.dueAnswer("exists(" + u + ") of triple " + number, onlyTriple(number),
                        x -> x.exists(u), 8, some(isTriple(number), u));
            }
            CHECKS.dueAnswer("exists(" + u + ") of none", x -> x.atMost(0, 0, 0, -1),
                    x -> x.exists(u), 0, NEVER);
            CHECKS.dueAnswer("exists(" + u + ") on 0", NOTHING, x -> x.exists(u), -2);
        }
        for (int bad : new int[] {-1, 3, LEAST, GREATEST}) {
            CHECKS.dueAnswer("exists(" + bad + ") on 0", NOTHING, x -> x.exists(bad), -1);
            CHECKS.dueAnswer("exists(" + bad + ") on 5", push(5), x -> x.exists(bad), -1, FIVE);
        }
    }

    private static void promise7Forall() {
        for (int v = 0; v <= 2; v++) {
            int u = v;
            for (int many = 1; many <= 5; many++) {
                Checks.Formula want = every(FIVE[many - 1], u);
                CHECKS.dueAnswer("forall(" + u + ") on " + many, push(many), x -> x.forall(u),
                        Checks.size(want), firstAnd(many - 1, want));
            }
            for (int number : new int[] {0, 7, 56, 448, 511, 290}) {
                Checks.Formula rest = (p, q, r) -> !isTriple(number).of(p, q, r);
                CHECKS.dueAnswer("forall(" + u + ") of all but triple " + number, x -> {
                    onlyTriple(number).on(x);
                    x.connect(PresburgerAuto.NOT);
                }, x -> x.forall(u), 504, every(rest, u));
            }
            CHECKS.dueAnswer("forall(" + u + ") of all", x -> x.atMost(0, 0, 0, 0),
                    x -> x.forall(u), 512, ALWAYS);
            CHECKS.dueAnswer("forall(" + u + ") on 0", NOTHING, x -> x.forall(u), -2);
        }
        for (int bad : new int[] {-1, 3, LEAST, GREATEST}) {
            CHECKS.dueAnswer("forall(" + bad + ") on 0", NOTHING, x -> x.forall(bad), -1);
            CHECKS.dueAnswer("forall(" + bad + ") on 5", push(5), x -> x.forall(bad), -1, FIVE);
        }
    }

    private static Checks.Formula isTriple(int number) {
        return (p, q, r) -> p + 8 * q + 64 * r == number;
    }

    /** Puts the formula on that holds of one triple alone. */
    private static Checks.Steps onlyTriple(int number) {
        return x -> {
            x.atMost(0, 0, 0, 0);
            for (int v = 0; v <= 2; v++) {
                int value = (number >> (3 * v)) % 8;
                int a = v == 0 ? 1 : 0;
                int b = v == 1 ? 1 : 0;
                int c = v == 2 ? 1 : 0;
                x.atMost(a, b, c, value);
                x.connect(PresburgerAuto.AND);
                x.atMost(-a, -b, -c, -value);
                x.connect(PresburgerAuto.AND);
            }
        };
    }

    private static void promise8Exchange() {
        for (int u = 0; u <= 2; u++) {
            for (int v = 0; v <= 2; v++) {
                int s = u;
                int t = v;
                String label = "exchange(" + s + ", " + t + ")";
                for (int many = 1; many <= 5; many++) {
                    CHECKS.dueAnswer(label + " on " + many, push(many), x -> x.exchange(s, t), 0,
                            firstAnd(many - 1, exchanged(FIVE[many - 1], s, t)));
                }
                CHECKS.dueAnswer(label + " on 0", NOTHING, x -> x.exchange(s, t), -2);
            }
        }
        for (int bad : new int[] {-1, 3, LEAST, GREATEST}) {
            for (int many : new int[] {0, 5}) {
                String label = "exchange with " + bad + " on " + many;
                CHECKS.dueAnswer(label, push(many), x -> x.exchange(bad, 1), -1, first(many));
                CHECKS.dueAnswer(label, push(many), x -> x.exchange(1, bad), -1, first(many));
                CHECKS.dueAnswer(label, push(many), x -> x.exchange(bad, bad), -1, first(many));
            }
        }
    }

    private static void promise9Mirror() {
        for (int v = 0; v <= 2; v++) {
            int u = v;
            for (int many = 1; many <= 5; many++) {
                CHECKS.dueAnswer("mirror(" + u + ") on " + many, push(many), x -> x.mirror(u), 0,
                        firstAnd(many - 1, mirrored(FIVE[many - 1], u)));
            }
            CHECKS.dueAnswer("mirror(" + u + ") on 0", NOTHING, x -> x.mirror(u), -2);
        }
        for (int bad : new int[] {-1, 3, LEAST, GREATEST}) {
            CHECKS.dueAnswer("mirror(" + bad + ") on 0", NOTHING, x -> x.mirror(bad), -1);
            CHECKS.dueAnswer("mirror(" + bad + ") on 5", push(5), x -> x.mirror(bad), -1, FIVE);
        }
    }

    private static void promise10Copy() {
        for (int many = 1; many < 5; many++) {
            for (int place = 0; place < many; place++) {
                int from = place;
                CHECKS.dueAnswer("copy(" + from + ") on " + many, push(many), x -> x.copy(from),
                        many + 1, firstAnd(many, FIVE[from]));
                CHECKS.dueAnswer("a changed copy(" + from + ") on " + many, push(many), x -> {
                    x.copy(from);
                    return x.mirror(0);
                }, 0, firstAnd(many, mirrored(FIVE[from], 0)));
            }
        }
        for (int many = 0; many <= 5; many++) {
            for (int bad : new int[] {-1, many, 5, LEAST, GREATEST}) {
                CHECKS.dueAnswer("copy(" + bad + ") on " + many, push(many), x -> x.copy(bad),
                        -1, first(many));
            }
        }
        for (int place = 0; place < 5; place++) {
            int from = place;
            CHECKS.dueAnswer("copy(" + from + ") on 5", push(5), x -> x.copy(from), -2, FIVE);
        }
    }

    private static void promise11Drop() {
        for (int many = 1; many <= 5; many++) {
            CHECKS.dueAnswer("drop() on " + many, push(many), x -> x.drop(), many - 1, first(many - 1));
            CHECKS.dueAnswer("another formula after drop() on " + many, push(many), x -> {
                x.drop();
                return x.atMost(0, 0, 0, -1);
            }, many, firstAnd(many - 1, NEVER));
        }
        CHECKS.dueAnswer("drop() on 0", NOTHING, x -> x.drop(), -1);
    }

    private static void promise12Holds() {
        for (int place = 0; place < 5; place++) {
            for (int number : new int[] {0, 1, 7, 8, 63, 64, 200, 510, 511}) {
                int at = place;
                CHECKS.dueAnswer("holds(" + at + ", " + number + ")", push(5), x -> x.holds(at, number),
                        Checks.at(FIVE[at], number) ? 1 : 0, FIVE);
            }
            for (int bad : new int[] {-1, 512, LEAST, GREATEST}) {
                int at = place;
                CHECKS.dueAnswer("holds(" + at + ", " + bad + ")", push(5), x -> x.holds(at, bad),
                        -2, FIVE);
            }
        }
        for (int number : new int[] {0, 511, -1, 512}) {
            dueBadPlace("holds(place, " + number + ")", (x, place) -> x.holds(place, number));
        }
    }

    /** A call of which only the place is left open. */
    private interface PlaceCall {
        int on(PresburgerAuto x, int place);
    }

    /** The call answers -1 and changes nothing for places just outside and far outside. */
    private static void dueBadPlace(String label, PlaceCall call) {
        for (int many = 0; many <= 5; many++) {
            for (int bad : new int[] {-1, many, 5, LEAST, GREATEST}) {
                CHECKS.dueAnswer(label + " for " + bad + " on " + many, push(many),
                        x -> call.on(x, bad), -1, first(many));
            }
        }
        CHECKS.dueOnly(label + " for a place that was dropped", push(3), x -> {
            x.drop();
            return call.on(x, 2);
        }, -1);
    }

    private static void promise13Count() {
        for (int place = 0; place < 5; place++) {
            int at = place;
            CHECKS.dueAnswer("count(" + at + ")", push(5), x -> x.count(at), Checks.size(FIVE[at]), FIVE);
        }
        CHECKS.dueAnswer("count of all", x -> x.atMost(0, 0, 0, 0), x -> x.count(0), 512, ALWAYS);
        CHECKS.dueAnswer("count of none", x -> x.atMost(0, 0, 0, -1), x -> x.count(0), 0, NEVER);
        for (int number : new int[] {0, 255, 511}) {
            CHECKS.dueOnly("count of triple " + number, onlyTriple(number), x -> x.count(0), 1);
        }
        dueBadPlace("count", (x, place) -> x.count(place));
    }

    private static void promise14Next() {
        for (int place = 0; place < 5; place++) {
            int at = place;
            for (int after = -3; after <= 515; after++) {
                int from = after;
                CHECKS.dueOnly("next(" + at + ", " + from + ")", push(5), x -> x.next(at, from),
                        leastAbove(FIVE[at], from));
            }
            for (int far : new int[] {LEAST, -512, -1, 511, 512, GREATEST - 1, GREATEST}) {
                CHECKS.dueAnswer("next(" + at + ", " + far + ")", push(5), x -> x.next(at, far),
                        leastAbove(FIVE[at], far), FIVE);
            }
        }
        for (int number : new int[] {0, 300, 511}) {
            CHECKS.dueOnly("next before triple " + number, onlyTriple(number),
                    x -> x.next(0, number - 1), number);
            CHECKS.dueOnly("next at triple " + number, onlyTriple(number), x -> x.next(0, number), -2);
        }
        for (int after : new int[] {LEAST, -1, 0, 511, GREATEST}) {
            CHECKS.dueOnly("next of none after " + after, x -> x.atMost(0, 0, 0, -1),
                    x -> x.next(0, after), -2);
            dueBadPlace("next(place, " + after + ")", (x, place) -> x.next(place, after));
        }
    }

    private static int leastAbove(Checks.Formula formula, int after) {
        for (long number = Math.max(0L, after + 1L); number < Checks.TRIPLES; number++) {
            if (Checks.at(formula, (int) number)) {
                return (int) number;
            }
        }
        return -2;
    }

    private static void promise15Same() {
        for (int i = 0; i < 5; i++) {
            for (int j = 0; j < 5; j++) {
                int s = i;
                int t = j;
                CHECKS.dueAnswer("same(" + s + ", " + t + ")", push(5), x -> x.same(s, t),
                        s == t ? 1 : 0, FIVE);
            }
        }
        CHECKS.dueOnly("same of a formula and its copy", x -> {
            push(2).on(x);
            x.copy(0);
        }, x -> x.same(0, 2), 1);
        for (int number : new int[] {0, 255, 511}) {
            Checks.Steps noneAndOne = x -> {
                x.atMost(0, 0, 0, -1);
                onlyTriple(number).on(x);
            };
            CHECKS.dueOnly("same of none and triple " + number, noneAndOne, x -> x.same(0, 1), 0);
            CHECKS.dueOnly("same of triple and none " + number, noneAndOne, x -> x.same(1, 0), 0);
        }
        dueBadPair("same", (x, i, j) -> x.same(i, j));
    }

    /** A call of which two places are left open. */
    private interface PairCall {
        int on(PresburgerAuto x, int i, int j);
    }

    private static void dueBadPair(String label, PairCall call) {
        dueBadPlace(label + "(bad, 0)", (x, place) -> call.on(x, place, 0));
        dueBadPlace(label + "(0, bad)", (x, place) -> call.on(x, 0, place));
        dueBadPlace(label + "(bad, bad)", (x, place) -> call.on(x, place, place));
    }

    private static void promise16Implied() {
        for (int i = 0; i < 5; i++) {
            for (int j = 0; j < 5; j++) {
                int s = i;
                int t = j;
                CHECKS.dueAnswer("implied(" + s + ", " + t + ")", push(5), x -> x.implied(s, t),
                        s == t ? 1 : 0, FIVE);
            }
        }
        Checks.Steps nested = x -> {
            x.atMost(1, 1, 1, 9);
            x.atMost(1, 1, 1, 10);
            x.atMost(0, 0, 0, -1);
            x.atMost(0, 0, 0, 0);
        };
        int[][] due = {{1, 1, 0, 1}, {0, 1, 0, 1}, {1, 1, 1, 1}, {0, 0, 0, 1}};
        for (int i = 0; i < 4; i++) {
            for (int j = 0; j < 4; j++) {
                int s = i;
                int t = j;
                CHECKS.dueOnly("nested: implied(" + s + ", " + t + ")", nested, x -> x.implied(s, t),
                        due[s][t]);
            }
        }
        for (int number : new int[] {0, 255, 511}) {
            CHECKS.dueOnly("implied(all, all but triple " + number + ")", x -> {
                onlyTriple(number).on(x);
                x.connect(PresburgerAuto.NOT);
                x.atMost(0, 0, 0, 0);
            }, x -> x.implied(1, 0), 0);
        }
        dueBadPair("implied", (x, i, j) -> x.implied(i, j));
    }

    private static void promise17Depends() {
        for (int v = 0; v <= 2; v++) {
            int u = v;
            for (int place = 0; place < 5; place++) {
                int at = place;
                CHECKS.dueAnswer("depends(" + at + ", " + u + ")", push(5), x -> x.depends(at, u), 1, FIVE);
            }
            for (int w = 0; w <= 2; w++) {
                int own = w;
                String label = "depends(0, " + u + ") of a formula of " + own + " alone";
                CHECKS.dueOnly(label, x -> x.atMost(own == 0 ? 1 : 0, own == 1 ? 1 : 0, own == 2 ? 1 : 0, 3),
                        x -> x.depends(0, u), own == u ? 1 : 0);
            }
            for (int place = 0; place < 5; place++) {
                int at = place;
                CHECKS.dueOnly("depends(" + at + ", " + u + ") of five that have one variable each", x -> {
                    x.atMost(1, 0, 0, 3);
                    x.atMost(0, 1, 0, 3);
                    x.atMost(0, 0, 1, 3);
                    x.atMost(-1, 0, 0, -7);
                    x.atMost(0, -1, 0, -7);
                }, x -> x.depends(at, u), at % 3 == u ? 1 : 0);
            }
            for (int number : new int[] {0, 300, 511}) {
                CHECKS.dueOnly("depends on " + u + " of triple " + number, onlyTriple(number),
                        x -> x.depends(0, u), 1);
                CHECKS.dueOnly("depends on " + u + " of all but triple " + number, x -> {
                    onlyTriple(number).on(x);
                    x.connect(PresburgerAuto.NOT);
                }, x -> x.depends(0, u), 1);
            }
            CHECKS.dueOnly("depends of all", x -> x.atMost(0, 0, 0, 0), x -> x.depends(0, u), 0);
            CHECKS.dueOnly("depends of none", x -> x.atMost(0, 0, 0, -1), x -> x.depends(0, u), 0);
            dueBadPlace("depends(place, " + u + ")", (x, place) -> x.depends(place, u));
        }
        for (int bad : new int[] {-1, 3, LEAST, GREATEST}) {
            CHECKS.dueAnswer("depends(4, " + bad + ")", push(5), x -> x.depends(4, bad), -2, FIVE);
            dueBadPlace("depends(place, " + bad + ")", (x, place) -> x.depends(place, bad));
        }
    }

    private static void promise18Values() {
        for (int v = 0; v <= 2; v++) {
            int u = v;
            for (int place = 0; place < 5; place++) {
                int at = place;
                CHECKS.dueAnswer("values(" + at + ", " + u + ")", push(5), x -> x.values(at, u),
                        valuesOf(FIVE[at], u), FIVE);
            }
            for (int bound = -1; bound <= 8; bound++) {
                int k = bound;
                Checks.Steps upTo = x -> x.atMost(u == 0 ? 1 : 0, u == 1 ? 1 : 0, u == 2 ? 1 : 0, k);
                for (int w = 0; w <= 2; w++) {
                    int asked = w;
                    int want = k < 0 ? 0 : asked != u ? 8 : Math.min(k + 1, 8);
                    CHECKS.dueOnly("values(0, " + asked + ") of " + u + " up to " + k, upTo,
                            x -> x.values(0, asked), want);
                }
            }
            for (int number : new int[] {0, 300, 511}) {
                CHECKS.dueOnly("values of triple " + number, onlyTriple(number), x -> x.values(0, u), 1);
            }
            dueBadPlace("values(place, " + u + ")", (x, place) -> x.values(place, u));
        }
        for (int bad : new int[] {-1, 3, LEAST, GREATEST}) {
            CHECKS.dueAnswer("values(4, " + bad + ")", push(5), x -> x.values(4, bad), -2, FIVE);
            dueBadPlace("values(place, " + bad + ")", (x, place) -> x.values(place, bad));
        }
    }

    private static int valuesOf(Checks.Formula formula, int v) {
        java.util.Set<Integer> seen = new java.util.TreeSet<>();
        for (int number = 0; number < Checks.TRIPLES; number++) {
            if (Checks.at(formula, number)) {
                seen.add(number >> (3 * v) & 7);
            }
        }
        return seen.size();
    }

    public static void main(String[] args) {
        promise1ANewObject();
        promise2Depth();
        promise3AtMost();
        promise4Congruent();
        promise5Connect();
        promise6Exists();
        promise7Forall();
        promise8Exchange();
        promise9Mirror();
        promise10Copy();
        promise11Drop();
        promise12Holds();
        promise13Count();
        promise14Next();
        promise15Same();
        promise16Implied();
        promise17Depends();
        promise18Values();
        CHECKS.end();
    }
}
