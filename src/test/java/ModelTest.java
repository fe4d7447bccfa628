import java.util.ArrayList;
import java.util.List;
import java.util.Set;
import java.util.TreeSet;

/** Fixed runs of mixed calls, good and bad, each answer compared with that of a plain model. */
public final class ModelTest {
    private static final int RUNS = 400;
    private static final int CALLS = 512;

    private static final String[] NAMES = {
        "depth", "atMost", "congruent", "connect", "exists", "forall", "exchange", "mirror", "copy",
        "drop", "holds", "count", "next", "same", "implied", "depends", "values",
    };

    // How often each call of NAMES is made: what builds must outweigh what takes away.
    private static final int[] SHARES = {1, 6, 6, 5, 2, 2, 3, 3, 5, 1, 4, 3, 4, 3, 3, 3, 3};

    private static long state = 20261115L;

    /** A fixed sequence of numbers, the same in every run of the test. */
    private static int pick(int low, int high) {
        state = state * 6364136223846793005L + 1442695040888963407L;
        return low + (int) ((state >>> 33) % (high - low + 1));
    }

    /** Mostly a number in the range, sometimes one just or far outside. */
    private static int near(int low, int high) {
        switch (pick(0, 29)) {
            case 0:
                return low - 1;
            case 1:
                return high + 1;
            case 2:
                return pick(0, 1) == 0 ? Integer.MIN_VALUE : Integer.MAX_VALUE;
            default:
                return pick(low, high);
        }
    }

    private static int pickName() {
        int sum = 0;
        for (int share : SHARES) {
            sum += share;
        }
        int left = pick(0, sum - 1);
        int name = 0;
        while (left >= SHARES[name]) {
            left -= SHARES[name];
            name++;
        }
        return name;
    }

    private static int[] pickArguments(String name, int depth) {
        int top = Math.max(depth - 1, 0);
        switch (name) {
            case "atMost":
                return new int[] {near(-4, 4), near(-4, 4), near(-4, 4),
                    pick(0, 3) == 0 ? near(-100, 100) : pick(-9, 15)};
            case "congruent":
                int modulus = near(2, 7);
                return new int[] {near(0, 728), modulus, near(0, Math.min(Math.max(modulus, 1), 7) - 1)};
            case "connect":
                return new int[] {near(0, 4)};
            case "exists":
            case "forall":
            case "mirror":
                return new int[] {near(0, 2)};
            case "exchange":
                return new int[] {near(0, 2), near(0, 2)};
            case "copy":
            case "count":
                return new int[] {near(0, top)};
            case "holds":
                return new int[] {near(0, top), near(0, 511)};
            case "next":
                return new int[] {near(0, top), near(-1, 511)};
            case "same":
            case "implied":
                return new int[] {near(0, top), near(0, top)};
            case "depends":
            case "values":
                return new int[] {near(0, top), near(0, 2)};
            default:
                return new int[0];
        }
    }

    private static int ask(PresburgerAuto x, String name, int[] g) {
        switch (name) {
            case "depth": return x.depth();
            case "atMost": return x.atMost(g[0], g[1], g[2], g[3]);
            case "congruent": return x.congruent(g[0], g[1], g[2]);
            case "connect": return x.connect(g[0]);
            case "exists": return x.exists(g[0]);
            case "forall": return x.forall(g[0]);
            case "exchange": return x.exchange(g[0], g[1]);
            case "mirror": return x.mirror(g[0]);
            case "copy": return x.copy(g[0]);
            case "drop": return x.drop();
            case "holds": return x.holds(g[0], g[1]);
            case "count": return x.count(g[0]);
            case "next": return x.next(g[0], g[1]);
            case "same": return x.same(g[0], g[1]);
            case "implied": return x.implied(g[0], g[1]);
            case "depends": return x.depends(g[0], g[1]);
            default: return x.values(g[0], g[1]);
        }
    }

    /** The document again, over lists of sets of triples' numbers. */
    private static final class Model {
        private final List<Set<Integer>> stack = new ArrayList<>();

        private interface Test {
            boolean of(int[] triple);
        }

        private static int[] triple(int number) {
            return new int[] {number % 8, number / 8 % 8, number / 64};
        }

        private static int number(int[] triple) {
            return triple[0] + 8 * triple[1] + 64 * triple[2];
        }

        private static Set<Integer> setOf(Test test) {
            Set<Integer> set = new TreeSet<>();
            for (int r = 0; r <= 7; r++) {
                for (int q = 0; q <= 7; q++) {
                    for (int p = 0; p <= 7; p++) {
                        int[] triple = {p, q, r};
                        if (test.of(triple)) {
                            set.add(number(triple));
                        }
                    }
                }
            }
            return set;
        }

        private static boolean in(int value, int low, int high) {
            return low <= value && value <= high;
        }

        private boolean place(int place) {
            return in(place, 0, stack.size() - 1);
        }

        private Set<Integer> pop() {
            return stack.remove(stack.size() - 1);
        }

        private int push(Set<Integer> set) {
            stack.add(set);
            return stack.size();
        }

        private static int bit(boolean answer) {
            return answer ? 1 : 0;
        }

        private int answer(String name, int[] g) {
            switch (name) {
                case "depth": return stack.size();
                case "atMost": return atMost(g[0], g[1], g[2], g[3]);
                case "congruent": return congruent(g[0], g[1], g[2]);
                case "connect": return connect(g[0]);
                case "drop": return drop();
                case "exists":
                case "forall":
                case "exchange":
                case "mirror": return change(name, g);
                default: return question(name, g);
            }
        }

        private int drop() {
            if (stack.isEmpty()) {
                return -1;
            }
            pop();
            return stack.size();
        }

        private int atMost(int a, int b, int c, int k) {
            if (!in(a, -4, 4) || !in(b, -4, 4) || !in(c, -4, 4)) {
                return -1;
            }
            if (!in(k, -100, 100)) {
                return -2;
            }
            return stack.size() == 5 ? -3 : push(setOf(t -> a * t[0] + b * t[1] + c * t[2] <= k));
        }

        private int congruent(int coefficients, int modulus, int rest) {
            if (!in(coefficients, 0, 728)) {
                return -1;
            }
            if (!in(modulus, 2, 7)) {
                return -2;
            }
            if (!in(rest, 0, modulus - 1)) {
                return -3;
            }
            if (stack.size() == 5) {
                return -4;
            }
            int a = coefficients / 81 - 4;
            int b = coefficients % 81 / 9 - 4;
            int c = coefficients % 9 - 4;
            return push(setOf(t -> Math.floorMod(a * t[0] + b * t[1] + c * t[2] - rest, modulus) == 0));
        }

        private int connect(int kind) {
            if (!in(kind, 0, 4)) {
                return -1;
            }
            if (stack.size() < (kind == 0 ? 1 : 2)) {
                return -2;
            }
            Set<Integer> b = pop();
            if (kind == 0) {
                return push(setOf(t -> !b.contains(number(t))));
            }
            Set<Integer> a = pop();
            // Bit 2 * [A holds] + [B holds] of each word is what the connective answers there.
            int[] words = {0, 0b1000, 0b1110, 0b0110, 0b1011};
            return push(setOf(t -> (words[kind]
                    >> (2 * bit(a.contains(number(t))) + bit(b.contains(number(t)))) & 1) == 1));
        }

        private int change(String name, int[] g) {
            for (int v : g) {
                if (!in(v, 0, 2)) {
                    return -1;
                }
            }
            if (stack.isEmpty()) {
                return -2;
            }
            Set<Integer> top = pop();
            int v = g[0];
            switch (name) {
                case "exists":
                    push(setOf(t -> lineSize(top, t, v) != 0));
                    return stack.get(stack.size() - 1).size();
                case "forall":
                    push(setOf(t -> lineSize(top, t, v) == 8));
                    return stack.get(stack.size() - 1).size();
                case "exchange":
                    push(setOf(t -> {
                        int[] other = t.clone();
                        other[g[0]] = t[g[1]];
                        other[g[1]] = t[g[0]];
                        return top.contains(number(other));
                    }));
                    return 0;
                default:
                    push(setOf(t -> {
                        int[] other = t.clone();
                        other[v] = 7 - t[v];
                        return top.contains(number(other));
                    }));
                    return 0;
            }
        }

        private static int lineSize(Set<Integer> set, int[] triple, int v) {
            int size = 0;
            int[] other = triple.clone();
            for (other[v] = 0; other[v] <= 7; other[v]++) {
                size += bit(set.contains(number(other)));
            }
            return size;
        }

        private int question(String name, int[] g) {
            if (!place(g[0])) {
                return -1;
            }
            Set<Integer> set = stack.get(g[0]);
            switch (name) {
                case "copy":
                    return stack.size() == 5 ? -2 : push(new TreeSet<>(set));
                case "count":
                    return set.size();
                case "holds":
                    return in(g[1], 0, 511) ? bit(set.contains(g[1])) : -2;
                case "next":
                    Integer next = ((TreeSet<Integer>) set).higher(g[1]);
                    return next == null ? -2 : next;
                case "same":
                    return place(g[1]) ? bit(set.equals(stack.get(g[1]))) : -1;
                case "implied":
                    return place(g[1]) ? bit(stack.get(g[1]).containsAll(set)) : -1;
                case "depends":
                    return in(g[1], 0, 2) ? depends(set, g[1]) : -2;
                default:
                    return in(g[1], 0, 2) ? values(set, g[1]) : -2;
            }
        }

        private static int depends(Set<Integer> set, int v) {
            return bit(!setOf(t -> lineSize(set, t, v) % 8 != 0).isEmpty());
        }

        private static int values(Set<Integer> set, int v) {
            Set<Integer> seen = new TreeSet<>();
            for (int number : set) {
                seen.add(triple(number)[v]);
            }
            return seen.size();
        }
    }

    private static void run(Checks checks, int run) {
        PresburgerAuto x = new PresburgerAuto();
        Model model = new Model();
        for (int call = 1; call <= CALLS; call++) {
            String name = NAMES[pickName()];
            int[] arguments = pickArguments(name, model.stack.size());
            String label = "run " + run + ", call " + call + ": " + name
                    + java.util.Arrays.toString(arguments);
            int got = ask(x, name, arguments);
            int want = model.answer(name, arguments);
            checks.due(label, got, want);
            // What follows a wrong answer says nothing new.
            if (got != want) {
                return;
            }
        }
    }

    public static void main(String[] args) {
        Checks checks = new Checks();
        for (int run = 1; run <= RUNS; run++) {
            run(checks, run);
        }
        checks.end();
    }
}
