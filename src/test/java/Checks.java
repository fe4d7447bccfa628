/** What the tests share: counting answers that are not as due, and looking at whole stacks. */
final class Checks {
    /** What a formula is due to hold of. */
    interface Formula {
        boolean of(int p, int q, int r);
    }

    /** Calls that bring a new object to the state that a test starts from. */
    interface Steps {
        void on(PresburgerAuto x);
    }

    /** The one call whose answer is looked at. */
    interface Call {
        int on(PresburgerAuto x);
    }

    static final int TRIPLES = 512;

    private int checked = 0;
    private int wrong = 0;

    void due(String label, long got, long want) {
        checked++;
        if (got != want) {
            wrong++;
            System.out.println(label + " answered " + got + ", due is " + want);
        }
    }

    /** After the steps, the call answers as due and leaves just these formulas, bottom first. */
    void dueAnswer(String label, Steps steps, Call call, int answer, Formula... stack) {
        PresburgerAuto x = new PresburgerAuto();
        steps.on(x);
        due(label, call.on(x), answer);
        due(label + ", then depth()", x.depth(), stack.length);
        for (int place = 0; place < stack.length; place++) {
            dueFormula(label, steps, call, place, stack[place]);
        }
    }

    /** Only the answer, on a new object after the steps. */
    void dueOnly(String label, Steps steps, Call call, int answer) {
        PresburgerAuto x = new PresburgerAuto();
        steps.on(x);
        due(label, call.on(x), answer);
    }

    static boolean at(Formula formula, int number) {
        return formula.of(number % 8, number / 8 % 8, number / 64);
    }

    static int size(Formula formula) {
        int size = 0;
        for (int number = 0; number < TRIPLES; number++) {
            size += at(formula, number) ? 1 : 0;
        }
        return size;
    }

    /** Prints the outcome and ends the program, with exit code 1 if an answer was wrong. */
    void end() {
        System.out.println(checked + " answers looked at, " + wrong + " not as due");
        if (wrong != 0) {
            System.exit(1);
        }
    }

    // An object is good for 512 calls only, so each half of the triples gets one of its own.
    private void dueFormula(String label, Steps steps, Call call, int place, Formula formula) {
        for (int half = 0; half < TRIPLES; half += TRIPLES / 2) {
            PresburgerAuto x = new PresburgerAuto();
            steps.on(x);
            call.on(x);
            for (int number = half; number < half + TRIPLES / 2; number++) {
                int want = at(formula, number) ? 1 : 0;
                int got = x.holds(place, number);
                checked++;
                if (got != want) {
                    wrong++;
                    System.out.println(label + ", then holds(" + place + ", " + number + ") answered "
                            + got + ", due is " + want);
                    return;
                }
            }
        }
    }
}
