import java.util.function.BiPredicate;

/**
 * Every refusal that the document names, in the order in which it names them: each method is called
 * with every combination of arguments at, just outside and far outside their bounds, on stacks of
 * 0 .. 5 formulas. The answer is that of the first test that refuses, and the stack stays as it was.
 */
public final class RefusalsTest {
    private static final Checks CHECKS = new Checks();
    private static final int LEAST = Integer.MIN_VALUE;
    private static final int GREATEST = Integer.MAX_VALUE;

    private static final int[] COEFFICIENTS = {LEAST, -5, -4, 0, 4, 5, GREATEST};
    private static final int[] BOUNDS = {LEAST, -101, -100, 0, 100, 101, GREATEST};
    private static final int[] CODES = {LEAST, -1, 0, 364, 728, 729, GREATEST};
    private static final int[] MODULI = {LEAST, -2, 0, 1, 2, 3, 4, 5, 6, 7, 8, GREATEST};
    private static final int[] RESTS = {LEAST, -1, 0, 1, 2, 3, 4, 5, 6, 7, 8, GREATEST};
    private static final int[] KINDS = {LEAST, -1, 0, 1, 2, 3, 4, 5, GREATEST};
    private static final int[] VARIABLES = {LEAST, -1, 0, 1, 2, 3, GREATEST};
    private static final int[] PLACES = {LEAST, -1, 0, 1, 2, 3, 4, 5, GREATEST};
    private static final int[] NUMBERS = {LEAST, -1, 0, 511, 512, GREATEST};
    private static final int[] AFTERS = {LEAST, -2, -1, 0, 510, 511, 512, GREATEST};

    /** One test of the document: what it answers, its words, and which arguments g it refuses at a depth. */
    private record Rule(int answer, String words, BiPredicate<int[], Integer> refuses) { }

    private interface Call {
        int on(PresburgerAuto x, int[] g);
    }

    private enum Kind { QUESTION, CHANGE }

    /** A method under test, with its rules in the document's order. */
    private record Subject(String name, Kind kind, Call call, int[][] choices, Rule... rules) {
        private int refusal(int[] g, int depth) {
            for (int rule = 0; rule < rules.length; rule++) {
                if (rules[rule].refuses.test(g, depth)) {
                    return rule;
                }
            }
            return -1;
        }
    }

    private static boolean outside(int value, int low, int high) {
        return value < low || value > high;
    }

    private static boolean noVariable(int v) {
        return outside(v, 0, 2);
    }

    /** Whether the place, if there is one, holds of no triple above. */
    private static boolean noneAbove(int place, int after, int depth) {
        for (int number = 0; number < Checks.TRIPLES; number++) {
            if (number > after && !outside(place, 0, depth - 1) && Checks.at(Five.ALL[place], number)) {
                return false;
            }
        }
        return true;
    }

    private static int[][] choices(int[]... choices) {
        return choices;
    }

    private static Rule rule(int answer, String words, BiPredicate<int[], Integer> refuses) {
        return new Rule(answer, words, refuses);
    }

    private static Rule full(int answer) {
        return rule(answer, "there are 5 formulas", (g, depth) -> depth == 5);
    }

    private static Rule empty(int answer) {
        return rule(answer, "the stack is empty", (g, depth) -> depth == 0);
    }

    private static Rule badPlace() {
        return rule(-1, "place is not good", (g, depth) -> outside(g[0], 0, depth - 1));
    }

    private static Rule badPlaces() {
        return rule(-1, "one of the places is not good",
                (g, depth) -> outside(g[0], 0, depth - 1) || outside(g[1], 0, depth - 1));
    }

    private static Rule badVariable(int answer, int argument) {
        return rule(answer, "v is not good", (g, depth) -> noVariable(g[argument]));
    }

    private static Subject question(String name, Call call, int[][] choices, Rule... rules) {
        return new Subject(name, Kind.QUESTION, call, choices, rules);
    }

    private static Subject change(String name, Call call, int[][] choices, Rule... rules) {
        return new Subject(name, Kind.CHANGE, call, choices, rules);
    }

    private static final Subject[] SUBJECTS = {
        question("depth", (x, g) -> x.depth(), choices()),
        change("atMost", (x, g) -> x.atMost(g[0], g[1], g[2], g[3]),
                choices(COEFFICIENTS, COEFFICIENTS, COEFFICIENTS, BOUNDS),
                rule(-1, "a, b or c is not in -4 .. 4", (g, depth) ->
                        outside(g[0], -4, 4) || outside(g[1], -4, 4) || outside(g[2], -4, 4)),
                rule(-2, "k is not in -100 .. 100", (g, depth) -> outside(g[3], -100, 100)),
                full(-3)),
        change("congruent", (x, g) -> x.congruent(g[0], g[1], g[2]), choices(CODES, MODULI, RESTS),
                rule(-1, "coefficients is not in 0 .. 728", (g, depth) -> outside(g[0], 0, 728)),
                rule(-2, "modulus is not in 2 .. 7", (g, depth) -> outside(g[1], 2, 7)),
                rule(-3, "rest is not in 0 .. modulus-1", (g, depth) -> g[2] < 0 || g[2] >= g[1]),
                full(-4)),
        change("connect", (x, g) -> x.connect(g[0]), choices(KINDS),
                rule(-1, "kind is not in 0 .. 4", (g, depth) -> outside(g[0], 0, 4)),
                rule(-2, "there are too few formulas", (g, depth) ->
                        depth < (g[0] == PresburgerAuto.NOT ? 1 : 2))),
        change("exists", (x, g) -> x.exists(g[0]), choices(VARIABLES), badVariable(-1, 0), empty(-2)),
        change("forall", (x, g) -> x.forall(g[0]), choices(VARIABLES), badVariable(-1, 0), empty(-2)),
        change("exchange", (x, g) -> x.exchange(g[0], g[1]), choices(VARIABLES, VARIABLES),
                rule(-1, "u or v is not good", (g, depth) -> noVariable(g[0]) || noVariable(g[1])),
                empty(-2)),
        change("mirror", (x, g) -> x.mirror(g[0]), choices(VARIABLES), badVariable(-1, 0), empty(-2)),
        change("copy", (x, g) -> x.copy(g[0]), choices(PLACES), badPlace(), full(-2)),
        change("drop", (x, g) -> x.drop(), choices(), empty(-1)),
        question("holds", (x, g) -> x.holds(g[0], g[1]), choices(PLACES, NUMBERS), badPlace(),
                rule(-2, "number is not in 0 .. 511", (g, depth) -> outside(g[1], 0, 511))),
        question("count", (x, g) -> x.count(g[0]), choices(PLACES), badPlace()),
        question("next", (x, g) -> x.next(g[0], g[1]), choices(PLACES, AFTERS), badPlace(),
                rule(-2, "there is none", (g, depth) -> noneAbove(g[0], g[1], depth))),
        question("same", (x, g) -> x.same(g[0], g[1]), choices(PLACES, PLACES), badPlaces()),
        question("implied", (x, g) -> x.implied(g[0], g[1]), choices(PLACES, PLACES), badPlaces()),
        question("depends", (x, g) -> x.depends(g[0], g[1]), choices(PLACES, VARIABLES),
                badPlace(), badVariable(-2, 1)),
        question("values", (x, g) -> x.values(g[0], g[1]), choices(PLACES, VARIABLES),
                badPlace(), badVariable(-2, 1)),
    };

    private static int combinations(int[][] choices) {
        int product = 1;
        for (int[] choice : choices) {
            product *= choice.length;
        }
        return product;
    }

    private static int[] combination(int[][] choices, int which) {
        int[] g = new int[choices.length];
        int left = which;
        for (int argument = 0; argument < g.length; argument++) {
            g[argument] = choices[argument][left % choices[argument].length];
            left /= choices[argument].length;
        }
        return g;
    }

    private static void look(Subject subject) {
        for (int depth = 0; depth <= 5; depth++) {
            for (int which = 0; which < combinations(subject.choices); which++) {
                int[] g = combination(subject.choices, which);
                int refusal = subject.refusal(g, depth);
                String label = subject.name + java.util.Arrays.toString(g) + " on " + depth;
                if (refusal >= 0) {
                    Rule rule = subject.rules[refusal];
                    CHECKS.dueAnswer(label + " (" + rule.words + ")", Five.push(depth),
                            x -> subject.call.on(x, g), rule.answer, Five.first(depth));
                } else {
                    dueTaken(label, subject, g, depth);
                }
            }
        }
    }

    /** What a taken call answers is for PromisesTest; here it only must not be refused. */
    private static void dueTaken(String label, Subject subject, int[] g, int depth) {
        PresburgerAuto x = new PresburgerAuto();
        Five.push(depth).on(x);
        int answer = subject.call.on(x, g);
        CHECKS.due(label + ", refused with " + answer + ",", answer < 0 ? 1 : 0, 0);
        if (subject.kind == Kind.QUESTION) {
            CHECKS.dueAnswer(label, Five.push(depth), y -> subject.call.on(y, g), answer, Five.first(depth));
        }
    }

    /** Whether the choices bring every rule, and every two rules of one method at once, to refuse. */
    private static void lookAtTheChoices(Subject subject) {
        int rules = subject.rules.length;
        for (int one = 0; one < rules; one++) {
            for (int two = one; two < rules; two++) {
                String label = subject.name + ": \"" + subject.rules[one].words + "\" with \""
                        + subject.rules[two].words + "\" in a test,";
                CHECKS.due(label, someRefusal(subject, one, two) ? 1 : 0, 1);
            }
        }
    }

    /** Some call in which rule one is the first to refuse, and rule two would refuse as well. */
    private static boolean someRefusal(Subject subject, int one, int two) {
        for (int depth = 0; depth <= 5; depth++) {
            for (int which = 0; which < combinations(subject.choices); which++) {
                int[] g = combination(subject.choices, which);
                if (subject.refusal(g, depth) == one && subject.rules[two].refuses.test(g, depth)) {
                    return true;
                }
            }
        }
        return false;
    }

    public static void main(String[] args) {
        for (Subject subject : SUBJECTS) {
            lookAtTheChoices(subject);
            look(subject);
        }
        CHECKS.end();
    }
}
