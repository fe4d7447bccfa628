/** Each promise of the document by its number: ordinary inputs, edges, wrong inputs. */
public final class PromisesTest {
    private static final Checks CHECKS = new Checks();
    private static final int LEAST = Integer.MIN_VALUE;
    private static final int GREATEST = Integer.MAX_VALUE;

    private static final Checks.Steps NOTHING = x -> { };
    private static final Checks.Formula ALWAYS = (p, q, r) -> true;
    private static final Checks.Formula NEVER = (p, q, r) -> false;

    /** The formula asked of the triple in which variable v has another value. */
    private static boolean with(Checks.Formula f, int[] triple, int v, int value) {
        int[] changed = triple.clone();
        changed[v] = value;
        return f.of(changed[0], changed[1], changed[2]);
    }

    private static Checks.Formula some(Checks.Formula f, int v) {
        return (p, q, r) -> {
            for (int value = 0; value <= 7; value++) {
                if (with(f, new int[] {p, q, r}, v, value)) {
                    return true;
                }
            }
            return false;
        };
    }

    private static Checks.Formula every(Checks.Formula f, int v) {
        return (p, q, r) -> !some((s, t, u) -> !f.of(s, t, u), v).of(p, q, r);
    }

    private static Checks.Formula exchanged(Checks.Formula f, int u, int v) {
        return (p, q, r) -> {
            int[] old = {p, q, r};
            int[] changed = {p, q, r};
            changed[u] = old[v];
            changed[v] = old[u];
            return f.of(changed[0], changed[1], changed[2]);
        };
    }

    private static Checks.Formula mirrored(Checks.Formula f, int v) {
        return (p, q, r) -> {
            int[] triple = {p, q, r};
            return with(f, triple, v, 7 - triple[v]);
        };
    }

    private static void promise1ANewObject() {
        CHECKS.dueAnswer("new: depth()", NOTHING, x -> x.depth(), 0);
        CHECKS.dueOnly("new: count(0)", NOTHING, x -> x.count(0), -1);
        CHECKS.dueOnly("new: drop()", NOTHING, x -> x.drop(), -1);
        PresburgerAuto used = new PresburgerAuto();
        Five.push(5).on(used);
        PresburgerAuto other = new PresburgerAuto();
        CHECKS.due("depth() of a second object", other.depth(), 0);
        other.atMost(0, 0, 0, -1);
        CHECKS.due("count(0) of the first object", used.count(0), Checks.size(Five.ALL[0]));
    }

    /** The 512th call is the last of which anything is promised. */
    private static void theLastCall() {
        for (int many = 0; many <= 5; many++) {
            int depth = many;
            Checks.Steps used = x -> {
                Five.push(depth).on(x);
                for (int call = depth + 1; call < 512; call++) {
                    x.atMost(9, 9, 9, 999);
                }
            };
            CHECKS.dueOnly("depth() as the 512th call on " + depth, used, x -> x.depth(), depth);
            CHECKS.dueOnly("atMost as the 512th call on " + depth, used, x -> x.atMost(1, 1, 1, 1),
                    depth < 5 ? depth + 1 : -3);
            CHECKS.dueOnly("count as the 512th call on " + depth, used, x -> x.count(depth - 1),
                    depth > 0 ? Checks.size(Five.ALL[depth - 1]) : -1);
        }
    }

    private static void promise2Depth() {
        for (int many = 0; many <= 5; many++) {
            CHECKS.dueAnswer("depth() of " + many, Five.push(many), x -> x.depth(), many, Five.first(many));
        }
        CHECKS.dueOnly("depth() after a refused call", Five.push(5), x -> {
            x.atMost(1, 1, 1, 1);
            return x.depth();
        }, 5);
    }

    private static void promise3AtMost() {
        for (int a = -4; a <= 4; a++) {
            for (int b = -4; b <= 4; b++) {
                for (int c = -4; c <= 4; c++) {
                    for (int k = -100; k <= 100; k++) {
                        atMostHolds(a, b, c, k);
                    }
                }
            }
        }
        atMostAtTheOutermostSums();
        for (int many = 0; many < 5; many++) {
            CHECKS.dueAnswer("atMost on " + many, Five.push(many), x -> x.atMost(1, -2, 3, 5),
                    many + 1, Five.firstAnd(many, Five.ALL[2]));
        }
        atMostRefuses();
    }

    /** The sums go from -84 to 84: just at and beside these bounds one triple makes the difference. */
    private static void atMostAtTheOutermostSums() {
        int[][] due = {{-85, 0}, {-84, 1}, {83, 511}, {84, 512}};
        for (int[] row : due) {
            int k = row[0];
            int sign = k < 0 ? -4 : 4;
            CHECKS.dueOnly("count of the greatest sums up to " + k, x -> x.atMost(sign, sign, sign, k),
                    x -> x.count(0), row[1]);
        }
    }

    private static void atMostHolds(int a, int b, int c, int k) {
        String label = "atMost(" + a + ", " + b + ", " + c + ", " + k + ")";
        CHECKS.dueAnswer(label, NOTHING, x -> x.atMost(a, b, c, k), 1,
                (p, q, r) -> a * p + b * q + c * r <= k);
    }

    private static void atMostRefuses() {
        for (int bad : new int[] {-5, 5, LEAST, GREATEST}) {
            for (int many : new int[] {0, 2, 5}) {
                String label = "atMost with coefficient " + bad + " on " + many;
                CHECKS.dueAnswer(label, Five.push(many), x -> x.atMost(bad, 0, 0, 0), -1, Five.first(many));
                CHECKS.dueAnswer(label, Five.push(many), x -> x.atMost(0, bad, 0, 0), -1, Five.first(many));
                CHECKS.dueAnswer(label, Five.push(many), x -> x.atMost(0, 0, bad, 101), -1, Five.first(many));
            }
        }
        for (int bad : new int[] {-101, 101, LEAST, GREATEST}) {
            for (int many : new int[] {0, 2, 5}) {
                CHECKS.dueAnswer("atMost with k " + bad + " on " + many, Five.push(many),
                        x -> x.atMost(4, -4, 4, bad), -2, Five.first(many));
            }
        }
        CHECKS.dueAnswer("atMost on 5", Five.push(5), x -> x.atMost(0, 0, 0, 0), -3, Five.ALL);
    }

    private static void promise4Congruent() {
        for (int modulus = 2; modulus <= 7; modulus++) {
            for (int rest = 0; rest < modulus; rest++) {
                for (int coefficients = 0; coefficients <= 728; coefficients++) {
                    congruentHolds(coefficients, modulus, rest);
                }
            }
        }
        for (int many = 0; many < 5; many++) {
            CHECKS.dueAnswer("congruent on " + many, Five.push(many),
                    x -> x.congruent(Five.coefficients(1, 2, -1), 3, 1),
                    many + 1, Five.firstAnd(many, Five.ALL[1]));
        }
        congruentRefuses();
    }

    private static void congruentHolds(int coefficients, int modulus, int rest) {
        int a = coefficients / 81 - 4;
        int b = coefficients / 9 % 9 - 4;
        int c = coefficients % 9 - 4;
        String label = "congruent(" + coefficients + ", " + modulus + ", " + rest + ")";
        CHECKS.dueAnswer(label, NOTHING, x -> x.congruent(coefficients, modulus, rest), 1,
                (p, q, r) -> Math.floorMod(a * p + b * q + c * r, modulus) == rest);
    }

    private static void congruentRefuses() {
        for (int many : new int[] {0, 2, 5}) {
            for (int bad : new int[] {-1, 729, LEAST, GREATEST}) {
                CHECKS.dueAnswer("congruent(" + bad + ", 2, 0) on " + many, Five.push(many),
                        x -> x.congruent(bad, 2, 0), -1, Five.first(many));
                CHECKS.dueAnswer("congruent(" + bad + ", 0, -1) on " + many, Five.push(many),
                        x -> x.congruent(bad, 0, -1), -1, Five.first(many));
            }
            for (int bad : new int[] {0, 1, 8, -2, LEAST, GREATEST}) {
                CHECKS.dueAnswer("congruent(364, " + bad + ", 0) on " + many, Five.push(many),
                        x -> x.congruent(364, bad, 0), -2, Five.first(many));
                CHECKS.dueAnswer("congruent(364, " + bad + ", -1) on " + many, Five.push(many),
                        x -> x.congruent(364, bad, -1), -2, Five.first(many));
            }
            for (int modulus = 2; modulus <= 7; modulus++) {
                int m = modulus;
                for (int bad : new int[] {-1, m, LEAST, GREATEST}) {
                    CHECKS.dueAnswer("congruent(364, " + m + ", " + bad + ") on " + many, Five.push(many),
                            x -> x.congruent(364, m, bad), -3, Five.first(many));
                }
            }
        }
        CHECKS.dueAnswer("congruent on 5", Five.push(5), x -> x.congruent(364, 2, 1), -4, Five.ALL);
    }

    private static void promise5Connect() {
        for (int many = 1; many <= 5; many++) {
            Checks.Formula top = Five.ALL[many - 1];
            CHECKS.dueAnswer("connect(NOT) on " + many, Five.push(many), x -> x.connect(PresburgerAuto.NOT),
                    many, Five.firstAnd(many - 1, (p, q, r) -> !top.of(p, q, r)));
        }
        for (int many = 2; many <= 5; many++) {
            Checks.Formula a = Five.ALL[many - 2];
            Checks.Formula b = Five.ALL[many - 1];
            connectJoins(many, PresburgerAuto.AND, (p, q, r) -> a.of(p, q, r) && b.of(p, q, r));
            connectJoins(many, PresburgerAuto.OR, (p, q, r) -> a.of(p, q, r) || b.of(p, q, r));
            connectJoins(many, PresburgerAuto.XOR, (p, q, r) -> a.of(p, q, r) ^ b.of(p, q, r));
            connectJoins(many, PresburgerAuto.IMPLIES, (p, q, r) -> !a.of(p, q, r) || b.of(p, q, r));
        }
        for (int bad : new int[] {-1, 5, LEAST, GREATEST}) {
            for (int many = 0; many <= 5; many++) {
                CHECKS.dueAnswer("connect(" + bad + ") on " + many, Five.push(many),
                        x -> x.connect(bad), -1, Five.first(many));
            }
        }
        CHECKS.dueAnswer("connect(NOT) on 0", NOTHING, x -> x.connect(PresburgerAuto.NOT), -2);
        for (int kind = PresburgerAuto.AND; kind <= PresburgerAuto.IMPLIES; kind++) {
            int k = kind;
            CHECKS.dueAnswer("connect(" + k + ") on 0", NOTHING, x -> x.connect(k), -2);
            CHECKS.dueAnswer("connect(" + k + ") on 1", Five.push(1), x -> x.connect(k), -2, Five.first(1));
        }
    }

    private static void connectJoins(int many, int kind, Checks.Formula joined) {
        CHECKS.dueAnswer("connect(" + kind + ") on " + many, Five.push(many), x -> x.connect(kind),
                many - 1, Five.firstAnd(many - 2, joined));
    }

    private static void promise6Exists() {
        for (int v = 0; v <= 2; v++) {
            int u = v;
            for (int many = 1; many <= 5; many++) {
                Checks.Formula want = some(Five.ALL[many - 1], u);
                CHECKS.dueAnswer("exists(" + u + ") on " + many, Five.push(many), x -> x.exists(u),
                        Checks.size(want), Five.firstAnd(many - 1, want));
            }
            for (int number : new int[] {0, 7, 56, 448, 511, 290}) {
                CHECKS.dueAnswer("exists(" + u + ") of triple " + number, onlyTriple(number),
                        x -> x.exists(u), 8, some(isTriple(number), u));
            }
            CHECKS.dueAnswer("exists(" + u + ") of none", x -> x.atMost(0, 0, 0, -1),
                    x -> x.exists(u), 0, NEVER);
            CHECKS.dueAnswer("exists(" + u + ") of all", x -> x.atMost(0, 0, 0, 0),
                    x -> x.exists(u), 512, ALWAYS);
            CHECKS.dueAnswer("exists(" + u + ") on 0", NOTHING, x -> x.exists(u), -2);
        }
        for (int bad : new int[] {-1, 3, LEAST, GREATEST}) {
            CHECKS.dueAnswer("exists(" + bad + ") on 0", NOTHING, x -> x.exists(bad), -1);
            CHECKS.dueAnswer("exists(" + bad + ") on 5", Five.push(5), x -> x.exists(bad), -1, Five.ALL);
        }
    }

    private static void promise7Forall() {
        for (int v = 0; v <= 2; v++) {
            int u = v;
            for (int many = 1; many <= 5; many++) {
                Checks.Formula want = every(Five.ALL[many - 1], u);
                CHECKS.dueAnswer("forall(" + u + ") on " + many, Five.push(many), x -> x.forall(u),
                        Checks.size(want), Five.firstAnd(many - 1, want));
            }
            for (int number : new int[] {0, 7, 56, 448, 511, 290}) {
                Checks.Formula rest = (p, q, r) -> !isTriple(number).of(p, q, r);
                CHECKS.dueAnswer("forall(" + u + ") of all but triple " + number, x -> {
                    onlyTriple(number).on(x);
                    x.connect(PresburgerAuto.NOT);
                }, x -> x.forall(u), 504, every(rest, u));
            }
            CHECKS.dueAnswer("forall(" + u + ") of all", x -> x.atMost(0, 0, 0, 0),
                    x -> x.forall(u), 512, ALWAYS);
            CHECKS.dueAnswer("forall(" + u + ") of none", x -> x.atMost(0, 0, 0, -1),
                    x -> x.forall(u), 0, NEVER);
            CHECKS.dueAnswer("forall(" + u + ") on 0", NOTHING, x -> x.forall(u), -2);
        }
        for (int bad : new int[] {-1, 3, LEAST, GREATEST}) {
            CHECKS.dueAnswer("forall(" + bad + ") on 0", NOTHING, x -> x.forall(bad), -1);
            CHECKS.dueAnswer("forall(" + bad + ") on 5", Five.push(5), x -> x.forall(bad), -1, Five.ALL);
        }
    }

    private static Checks.Formula isTriple(int number) {
        return (p, q, r) -> p + 8 * q + 64 * r == number;
    }

    /** Puts the formula on that holds of one triple alone. */
    private static Checks.Steps onlyTriple(int number) {
        return x -> {
            x.atMost(0, 0, 0, 0);
            for (int v = 0; v <= 2; v++) {
                int value = (number >> (3 * v)) % 8;
                int a = v == 0 ? 1 : 0;
                int b = v == 1 ? 1 : 0;
                int c = v == 2 ? 1 : 0;
                x.atMost(a, b, c, value);
                x.connect(PresburgerAuto.AND);
                x.atMost(-a, -b, -c, -value);
                x.connect(PresburgerAuto.AND);
            }
        };
    }

    private static void promise8Exchange() {
        for (int u = 0; u <= 2; u++) {
            for (int v = 0; v <= 2; v++) {
                int s = u;
                int t = v;
                String label = "exchange(" + s + ", " + t + ")";
                for (int many = 1; many <= 5; many++) {
                    CHECKS.dueAnswer(label + " on " + many, Five.push(many), x -> x.exchange(s, t), 0,
                            Five.firstAnd(many - 1, exchanged(Five.ALL[many - 1], s, t)));
                }
                CHECKS.dueAnswer(label + " on 0", NOTHING, x -> x.exchange(s, t), -2);
            }
        }
        for (int bad : new int[] {-1, 3, LEAST, GREATEST}) {
            for (int many : new int[] {0, 5}) {
                String label = "exchange with " + bad + " on " + many;
                CHECKS.dueAnswer(label, Five.push(many), x -> x.exchange(bad, 1), -1, Five.first(many));
                CHECKS.dueAnswer(label, Five.push(many), x -> x.exchange(1, bad), -1, Five.first(many));
                CHECKS.dueAnswer(label, Five.push(many), x -> x.exchange(bad, bad), -1, Five.first(many));
            }
        }
    }

    private static void promise9Mirror() {
        for (int v = 0; v <= 2; v++) {
            int u = v;
            for (int many = 1; many <= 5; many++) {
                CHECKS.dueAnswer("mirror(" + u + ") on " + many, Five.push(many), x -> x.mirror(u), 0,
                        Five.firstAnd(many - 1, mirrored(Five.ALL[many - 1], u)));
            }
            CHECKS.dueAnswer("mirror(" + u + ") on 0", NOTHING, x -> x.mirror(u), -2);
        }
        for (int bad : new int[] {-1, 3, LEAST, GREATEST}) {
            CHECKS.dueAnswer("mirror(" + bad + ") on 0", NOTHING, x -> x.mirror(bad), -1);
            CHECKS.dueAnswer("mirror(" + bad + ") on 5", Five.push(5), x -> x.mirror(bad), -1, Five.ALL);
        }
    }

    private static void promise10Copy() {
        for (int many = 1; many < 5; many++) {
            for (int place = 0; place < many; place++) {
                int from = place;
                CHECKS.dueAnswer("copy(" + from + ") on " + many, Five.push(many), x -> x.copy(from),
                        many + 1, Five.firstAnd(many, Five.ALL[from]));
                CHECKS.dueAnswer("a changed copy(" + from + ") on " + many, Five.push(many), x -> {
                    x.copy(from);
                    return x.mirror(0);
                }, 0, Five.firstAnd(many, mirrored(Five.ALL[from], 0)));
            }
        }
        for (int many = 0; many <= 5; many++) {
            for (int bad : new int[] {-1, many, 5, LEAST, GREATEST}) {
                CHECKS.dueAnswer("copy(" + bad + ") on " + many, Five.push(many), x -> x.copy(bad),
                        -1, Five.first(many));
            }
        }
        for (int place = 0; place < 5; place++) {
            int from = place;
            CHECKS.dueAnswer("copy(" + from + ") on 5", Five.push(5), x -> x.copy(from), -2, Five.ALL);
        }
    }

    private static void promise11Drop() {
        for (int many = 1; many <= 5; many++) {
            CHECKS.dueAnswer("drop() on " + many, Five.push(many), x -> x.drop(),
                    many - 1, Five.first(many - 1));
            CHECKS.dueAnswer("another formula after drop() on " + many, Five.push(many), x -> {
                x.drop();
                return x.atMost(0, 0, 0, -1);
            }, many, Five.firstAnd(many - 1, NEVER));
        }
        CHECKS.dueAnswer("drop() on 0", NOTHING, x -> x.drop(), -1);
        Checks.Steps emptied = x -> {
            Five.push(5).on(x);
            for (int many = 5; many > 0; many--) {
                x.drop();
            }
        };
        CHECKS.dueAnswer("drop() on a stack that became empty", emptied, x -> x.drop(), -1);
        CHECKS.dueAnswer("a formula after a refused drop()", emptied, x -> {
            x.drop();
            return x.atMost(0, 0, 0, 0);
        }, 1, ALWAYS);
    }

    private static void promise12Holds() {
        for (int place = 0; place < 5; place++) {
            for (int number : new int[] {0, 1, 7, 8, 63, 64, 200, 510, 511}) {
                int at = place;
                CHECKS.dueAnswer("holds(" + at + ", " + number + ")", Five.push(5), x -> x.holds(at, number),
                        Checks.at(Five.ALL[at], number) ? 1 : 0, Five.ALL);
            }
            for (int bad : new int[] {-1, 512, LEAST, GREATEST}) {
                int at = place;
                CHECKS.dueAnswer("holds(" + at + ", " + bad + ")", Five.push(5), x -> x.holds(at, bad),
                        -2, Five.ALL);
            }
        }
        for (int number : new int[] {0, 511, -1, 512}) {
            dueBadPlace("holds(place, " + number + ")", (x, place) -> x.holds(place, number));
        }
    }

    /** A call of which only the place is left open. */
    private interface PlaceCall {
        int on(PresburgerAuto x, int place);
    }

    /** The call answers -1 and changes nothing for places just outside and far outside. */
    private static void dueBadPlace(String label, PlaceCall call) {
        for (int many = 0; many <= 5; many++) {
            for (int bad : new int[] {-1, many, 5, LEAST, GREATEST}) {
                CHECKS.dueAnswer(label + " for " + bad + " on " + many, Five.push(many),
                        x -> call.on(x, bad), -1, Five.first(many));
            }
        }
        CHECKS.dueOnly(label + " for a place that was dropped", Five.push(3), x -> {
            x.drop();
            return call.on(x, 2);
        }, -1);
    }

    private static void promise13Count() {
        for (int place = 0; place < 5; place++) {
            int at = place;
            CHECKS.dueAnswer("count(" + at + ")", Five.push(5), x -> x.count(at),
                    Checks.size(Five.ALL[at]), Five.ALL);
        }
        CHECKS.dueAnswer("count of all", x -> x.atMost(0, 0, 0, 0), x -> x.count(0), 512, ALWAYS);
        CHECKS.dueAnswer("count of none", x -> x.atMost(0, 0, 0, -1), x -> x.count(0), 0, NEVER);
        for (int number : new int[] {0, 255, 511}) {
            CHECKS.dueOnly("count of triple " + number, onlyTriple(number), x -> x.count(0), 1);
        }
        dueBadPlace("count", (x, place) -> x.count(place));
    }

    private static void promise14Next() {
        for (int place = 0; place < 5; place++) {
            int at = place;
            for (int after = -3; after <= 515; after++) {
                int from = after;
                CHECKS.dueOnly("next(" + at + ", " + from + ")", Five.push(5), x -> x.next(at, from),
                        leastAbove(Five.ALL[at], from));
            }
            for (int far : new int[] {LEAST, -512, -1, 511, 512, GREATEST - 1, GREATEST}) {
                CHECKS.dueAnswer("next(" + at + ", " + far + ")", Five.push(5), x -> x.next(at, far),
                        leastAbove(Five.ALL[at], far), Five.ALL);
            }
        }
        for (int number : new int[] {0, 300, 511}) {
            CHECKS.dueOnly("next before triple " + number, onlyTriple(number),
                    x -> x.next(0, number - 1), number);
            CHECKS.dueOnly("next at triple " + number, onlyTriple(number), x -> x.next(0, number), -2);
        }
        for (int after : new int[] {LEAST, -1, 0, 511, GREATEST}) {
            CHECKS.dueOnly("next of none after " + after, x -> x.atMost(0, 0, 0, -1),
                    x -> x.next(0, after), -2);
            dueBadPlace("next(place, " + after + ")", (x, place) -> x.next(place, after));
        }
    }

    private static int leastAbove(Checks.Formula formula, int after) {
        for (long number = Math.max(0L, after + 1L); number < Checks.TRIPLES; number++) {
            if (Checks.at(formula, (int) number)) {
                return (int) number;
            }
        }
        return -2;
    }

    private static void promise15Same() {
        for (int i = 0; i < 5; i++) {
            for (int j = 0; j < 5; j++) {
                int s = i;
                int t = j;
                CHECKS.dueAnswer("same(" + s + ", " + t + ")", Five.push(5), x -> x.same(s, t),
                        s == t ? 1 : 0, Five.ALL);
            }
        }
        CHECKS.dueOnly("same of a formula and its copy", x -> {
            Five.push(2).on(x);
            x.copy(0);
        }, x -> x.same(0, 2), 1);
        for (int number : new int[] {0, 255, 511}) {
            Checks.Steps noneAndOne = x -> {
                x.atMost(0, 0, 0, -1);
                onlyTriple(number).on(x);
            };
            CHECKS.dueOnly("same of none and triple " + number, noneAndOne, x -> x.same(0, 1), 0);
            CHECKS.dueOnly("same of triple and none " + number, noneAndOne, x -> x.same(1, 0), 0);
        }
        dueBadPair("same", (x, i, j) -> x.same(i, j));
    }

    /** A call of which two places are left open. */
    private interface PairCall {
        int on(PresburgerAuto x, int i, int j);
    }

    private static void dueBadPair(String label, PairCall call) {
        dueBadPlace(label + "(bad, 0)", (x, place) -> call.on(x, place, 0));
        dueBadPlace(label + "(0, bad)", (x, place) -> call.on(x, 0, place));
        dueBadPlace(label + "(bad, bad)", (x, place) -> call.on(x, place, place));
    }

    private static void promise16Implied() {
        for (int i = 0; i < 5; i++) {
            for (int j = 0; j < 5; j++) {
                int s = i;
                int t = j;
                CHECKS.dueAnswer("implied(" + s + ", " + t + ")", Five.push(5), x -> x.implied(s, t),
                        s == t ? 1 : 0, Five.ALL);
            }
        }
        Checks.Steps nested = x -> {
            x.atMost(1, 1, 1, 9);
            x.atMost(1, 1, 1, 10);
            x.atMost(0, 0, 0, -1);
            x.atMost(0, 0, 0, 0);
        };
        int[][] due = {{1, 1, 0, 1}, {0, 1, 0, 1}, {1, 1, 1, 1}, {0, 0, 0, 1}};
        for (int i = 0; i < 4; i++) {
            for (int j = 0; j < 4; j++) {
                int s = i;
                int t = j;
                CHECKS.dueOnly("nested: implied(" + s + ", " + t + ")", nested, x -> x.implied(s, t),
                        due[s][t]);
            }
        }
        for (int number : new int[] {0, 255, 511}) {
            CHECKS.dueOnly("implied(all, all but triple " + number + ")", x -> {
                onlyTriple(number).on(x);
                x.connect(PresburgerAuto.NOT);
                x.atMost(0, 0, 0, 0);
            }, x -> x.implied(1, 0), 0);
        }
        dueBadPair("implied", (x, i, j) -> x.implied(i, j));
    }

    private static void promise17Depends() {
        for (int v = 0; v <= 2; v++) {
            int u = v;
            for (int place = 0; place < 5; place++) {
                int at = place;
                CHECKS.dueAnswer("depends(" + at + ", " + u + ")", Five.push(5), x -> x.depends(at, u),
                        1, Five.ALL);
            }
            for (int w = 0; w <= 2; w++) {
                int own = w;
                String label = "depends(0, " + u + ") of a formula of " + own + " alone";
                CHECKS.dueOnly(label, x -> x.atMost(own == 0 ? 1 : 0, own == 1 ? 1 : 0, own == 2 ? 1 : 0, 3),
                        x -> x.depends(0, u), own == u ? 1 : 0);
            }
            for (int place = 0; place < 5; place++) {
                int at = place;
                CHECKS.dueOnly("depends(" + at + ", " + u + ") of five that have one variable each", x -> {
                    x.atMost(1, 0, 0, 3);
                    x.atMost(0, 1, 0, 3);
                    x.atMost(0, 0, 1, 3);
                    x.atMost(-1, 0, 0, -7);
                    x.atMost(0, -1, 0, -7);
                }, x -> x.depends(at, u), at % 3 == u ? 1 : 0);
            }
            for (int number : new int[] {0, 300, 511}) {
                CHECKS.dueOnly("depends on " + u + " of triple " + number, onlyTriple(number),
                        x -> x.depends(0, u), 1);
                CHECKS.dueOnly("depends on " + u + " of all but triple " + number, x -> {
                    onlyTriple(number).on(x);
                    x.connect(PresburgerAuto.NOT);
                }, x -> x.depends(0, u), 1);
            }
            CHECKS.dueOnly("depends of all", x -> x.atMost(0, 0, 0, 0), x -> x.depends(0, u), 0);
            CHECKS.dueOnly("depends of none", x -> x.atMost(0, 0, 0, -1), x -> x.depends(0, u), 0);
            dueBadPlace("depends(place, " + u + ")", (x, place) -> x.depends(place, u));
        }
        for (int bad : new int[] {-1, 3, LEAST, GREATEST}) {
            CHECKS.dueAnswer("depends(4, " + bad + ")", Five.push(5), x -> x.depends(4, bad), -2, Five.ALL);
            dueBadPlace("depends(place, " + bad + ")", (x, place) -> x.depends(place, bad));
        }
    }

    private static void promise18Values() {
        for (int v = 0; v <= 2; v++) {
            int u = v;
            for (int place = 0; place < 5; place++) {
                int at = place;
                CHECKS.dueAnswer("values(" + at + ", " + u + ")", Five.push(5), x -> x.values(at, u),
                        valuesOf(Five.ALL[at], u), Five.ALL);
            }
            for (int bound = -1; bound <= 8; bound++) {
                int k = bound;
                Checks.Steps upTo = x -> x.atMost(u == 0 ? 1 : 0, u == 1 ? 1 : 0, u == 2 ? 1 : 0, k);
                for (int w = 0; w <= 2; w++) {
                    int asked = w;
                    int want = k < 0 ? 0 : asked != u ? 8 : Math.min(k + 1, 8);
                    CHECKS.dueOnly("values(0, " + asked + ") of " + u + " up to " + k, upTo,
                            x -> x.values(0, asked), want);
                }
            }
            for (int number : new int[] {0, 300, 511}) {
                CHECKS.dueOnly("values of triple " + number, onlyTriple(number), x -> x.values(0, u), 1);
            }
            dueBadPlace("values(place, " + u + ")", (x, place) -> x.values(place, u));
        }
        for (int bad : new int[] {-1, 3, LEAST, GREATEST}) {
            CHECKS.dueAnswer("values(4, " + bad + ")", Five.push(5), x -> x.values(4, bad), -2, Five.ALL);
            dueBadPlace("values(place, " + bad + ")", (x, place) -> x.values(place, bad));
        }
    }

    /** Empty and full formulas by turns: an answer with a part of a neighbour in it shows at once. */
    private static void emptyAndFullByTurns() {
        for (int parity = 0; parity <= 1; parity++) {
            int fullAt = parity;
            Checks.Steps byTurns = x -> {
                for (int place = 0; place < 5; place++) {
                    x.atMost(0, 0, 0, place % 2 == fullAt ? 0 : -1);
                }
            };
            for (int place = 0; place < 5; place++) {
                dueEmptyOrFull(byTurns, place, place % 2 == fullAt);
                for (int other = 0; other < 5; other++) {
                    int i = place;
                    int j = other;
                    String pair = "(" + i + ", " + j + ") of empty and full by turns";
                    CHECKS.dueOnly("same" + pair, byTurns, x -> x.same(i, j), (i - j) % 2 == 0 ? 1 : 0);
                    CHECKS.dueOnly("implied" + pair, byTurns, x -> x.implied(i, j),
                            i % 2 != fullAt || j % 2 == fullAt ? 1 : 0);
                }
            }
        }
    }

    private static void dueEmptyOrFull(Checks.Steps steps, int at, boolean full) {
        String label = (full ? "full" : "empty") + " at place " + at + ": ";
        CHECKS.dueOnly(label + "holds of 0", steps, x -> x.holds(at, 0), full ? 1 : 0);
        CHECKS.dueOnly(label + "holds of 511", steps, x -> x.holds(at, 511), full ? 1 : 0);
        CHECKS.dueOnly(label + "count", steps, x -> x.count(at), full ? 512 : 0);
        CHECKS.dueOnly(label + "next after -1", steps, x -> x.next(at, -1), full ? 0 : -2);
        CHECKS.dueOnly(label + "next after 510", steps, x -> x.next(at, 510), full ? 511 : -2);
        CHECKS.dueOnly(label + "next after 511", steps, x -> x.next(at, 511), -2);
        for (int v = 0; v <= 2; v++) {
            int u = v;
            CHECKS.dueOnly(label + "depends on " + u, steps, x -> x.depends(at, u), 0);
            CHECKS.dueOnly(label + "values of " + u, steps, x -> x.values(at, u), full ? 8 : 0);
        }
    }

    private static int valuesOf(Checks.Formula formula, int v) {
        java.util.Set<Integer> seen = new java.util.TreeSet<>();
        for (int number = 0; number < Checks.TRIPLES; number++) {
            if (Checks.at(formula, number)) {
                seen.add(number >> (3 * v) & 7);
            }
        }
        return seen.size();
    }

    public static void main(String[] args) {
        promise1ANewObject();
        theLastCall();
        promise2Depth();
        promise3AtMost();
        promise4Congruent();
        promise5Connect();
        promise6Exists();
        promise7Forall();
        promise8Exchange();
        promise9Mirror();
        promise10Copy();
        promise11Drop();
        promise12Holds();
        promise13Count();
        promise14Next();
        promise15Same();
        promise16Implied();
        promise17Depends();
        promise18Values();
        emptyAndFullByTurns();
        CHECKS.end();
    }
}
