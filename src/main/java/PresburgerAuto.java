public final class PresburgerAuto {
    public static final int NOT = 0;
    public static final int AND = 1;
    public static final int OR = 2;
    public static final int XOR = 3;
    public static final int IMPLIES = 4;

    private static final int VARIABLES = 3;
    private static final int VALUES = 8;
    private static final int TRIPLES = 512;
    private static final int PLACES = 5;
    private static final int CELLS = 2560;

    // With only 512 triples, a formula is kept as its whole table of answers:
    // place * TRIPLES + number is the cell of a triple. Cells at or above
    // height * TRIPLES are leftovers, and are overwritten before they are read.
    private final boolean[] cells = new boolean[CELLS];
    private int height;

    public PresburgerAuto() {
        height = 0;
    }

    public int depth() {
        return height;
    }

    public int atMost(int a, int b, int c, int k) {
        if (!isCoefficient(a) || !isCoefficient(b) || !isCoefficient(c)) {
            return -1;
        }
        if (k < -100 || k > 100) {
            return -2;
        }
        if (height >= PLACES) {
            return -3;
        }
        int start = height * TRIPLES;
        for (int number = 0; number < TRIPLES; number++) {
            cells[start + number] = weightedSum(a, b, c, number) <= k;
        }
        height++;
        return height;
    }

    public int congruent(int coefficients, int modulus, int rest) {
        if (coefficients < 0 || coefficients > 728) {
            return -1;
        }
        if (modulus < 2 || modulus > 7) {
            return -2;
        }
        if (rest < 0 || rest >= modulus) {
            return -3;
        }
        if (height >= PLACES) {
            return -4;
        }
        int a = coefficients / 81 - 4;
        int b = coefficients / 9 % 9 - 4;
        int c = coefficients % 9 - 4;
        int start = height * TRIPLES;
        for (int number = 0; number < TRIPLES; number++) {
            int difference = weightedSum(a, b, c, number) - rest;
            cells[start + number] = difference % modulus == 0;
        }
        height++;
        return height;
    }

    public int connect(int kind) {
        if (kind < NOT || kind > IMPLIES) {
            return -1;
        }
        int needed = kind == NOT ? 1 : 2;
        if (height < needed) {
            return -2;
        }
        if (kind == NOT) {
            negateTop();
        } else {
            joinTopTwo(kind);
        }
        return height;
    }

    public int exists(int v) {
        return quantify(v, 1);
    }

    public int forall(int v) {
        return quantify(v, VALUES);
    }

    public int exchange(int u, int v) {
        if (!isVariable(u) || !isVariable(v)) {
            return -1;
        }
        if (height < 1) {
            return -2;
        }
        int start = topStart();
        for (int number = 0; number < TRIPLES; number++) {
            int other = exchangedNumber(number, u, v);
            // Each pair is met twice; a second swap would undo the first.
            if (number < other) {
                swapCells(start + number, start + other);
            }
        }
        return 0;
    }

    public int mirror(int v) {
        if (!isVariable(v)) {
            return -1;
        }
        if (height < 1) {
            return -2;
        }
        int start = topStart();
        for (int number = 0; number < TRIPLES; number++) {
            int other = mirroredNumber(number, v);
            // Each pair is met twice; a second swap would undo the first.
            if (number < other) {
                swapCells(start + number, start + other);
            }
        }
        return 0;
    }

    public int copy(int place) {
        if (!isPlace(place)) {
            return -1;
        }
        if (height >= PLACES) {
            return -2;
        }
        int from = place * TRIPLES;
        int to = height * TRIPLES;
        for (int number = 0; number < TRIPLES; number++) {
            cells[to + number] = cells[from + number];
        }
        height++;
        return height;
    }

    public int drop() {
        if (height < 1) {
            return -1;
        }
        height--;
        return height;
    }

    public int holds(int place, int number) {
        if (!isPlace(place)) {
            return -1;
        }
        if (number < 0 || number >= TRIPLES) {
            return -2;
        }
        return cells[place * TRIPLES + number] ? 1 : 0;
    }

    public int count(int place) {
        if (!isPlace(place)) {
            return -1;
        }
        return heldTriples(place);
    }

    public int next(int place, int after) {
        if (!isPlace(place)) {
            return -1;
        }
        int start = place * TRIPLES;
        // Starting at after + 1 would wrap around for the greatest int.
        for (int number = 0; number < TRIPLES; number++) {
            if (number > after && cells[start + number]) {
                return number;
            }
        }
        return -2;
    }

    public int same(int i, int j) {
        if (!isPlace(i) || !isPlace(j)) {
            return -1;
        }
        return isSubset(i, j) && isSubset(j, i) ? 1 : 0;
    }

    public int implied(int i, int j) {
        if (!isPlace(i) || !isPlace(j)) {
            return -1;
        }
        return isSubset(i, j) ? 1 : 0;
    }

    public int depends(int place, int v) {
        if (!isPlace(place)) {
            return -1;
        }
        if (!isVariable(v)) {
            return -2;
        }
        int start = place * TRIPLES;
        int step = stepOf(v);
        for (int number = 0; number < TRIPLES; number++) {
            if (valueOf(number, v) == 0) {
                int held = heldOnLine(start + number, step);
                if (held > 0 && held < VALUES) {
                    return 1;
                }
            }
        }
        return 0;
    }

    public int values(int place, int v) {
        if (!isPlace(place)) {
            return -1;
        }
        if (!isVariable(v)) {
            return -2;
        }
        int taken = 0;
        for (int value = 0; value < VALUES; value++) {
            if (isTaken(place, v, value)) {
                taken++;
            }
        }
        return taken;
    }

    private static boolean isCoefficient(int a) {
        return a >= -4 && a <= 4;
    }

    private static boolean isVariable(int v) {
        return v >= 0 && v < VARIABLES;
    }

    private boolean isPlace(int place) {
        return place >= 0 && place < height;
    }

    private int topStart() {
        return (height - 1) * TRIPLES;
    }

    // By how much a triple's number grows when the value of v grows by 1.
    private static int stepOf(int v) {
        return 1 << (3 * v);
    }

    private static int valueOf(int number, int v) {
        return (number >> (3 * v)) & 7;
    }

    private static int weightedSum(int a, int b, int c, int number) {
        return a * valueOf(number, 0) + b * valueOf(number, 1) + c * valueOf(number, 2);
    }

    private static int exchangedNumber(int number, int u, int v) {
        int growth = valueOf(number, v) - valueOf(number, u);
        return number + growth * stepOf(u) - growth * stepOf(v);
    }

    private static int mirroredNumber(int number, int v) {
        int value = valueOf(number, v);
        int growth = VALUES - 1 - value - value;
        return number + growth * stepOf(v);
    }

    private void swapCells(int first, int second) {
        boolean kept = cells[first];
        cells[first] = cells[second];
        cells[second] = kept;
    }

    private void negateTop() {
        int start = topStart();
        for (int number = 0; number < TRIPLES; number++) {
            cells[start + number] = !cells[start + number];
        }
    }

    private void joinTopTwo(int kind) {
        int upper = topStart();
        int lower = upper - TRIPLES;
        for (int number = 0; number < TRIPLES; number++) {
            cells[lower + number] = joined(kind, cells[lower + number], cells[upper + number]);
        }
        height--;
    }

    private static boolean joined(int kind, boolean a, boolean b) {
        switch (kind) {
            case AND:
                return a && b;
            case OR:
                return a || b;
            case XOR:
                return a != b;
            default:
                return !a || b;
        }
    }

    // A line is the eight triples that differ in the value of v alone; both
    // quantifiers give a whole line one answer, by how many of it are held.
    private int quantify(int v, int needed) {
        if (!isVariable(v)) {
            return -1;
        }
        if (height < 1) {
            return -2;
        }
        int start = topStart();
        int step = stepOf(v);
        for (int number = 0; number < TRIPLES; number++) {
            if (valueOf(number, v) == 0) {
                int held = heldOnLine(start + number, step);
                fillLine(start + number, step, held >= needed);
            }
        }
        return heldTriples(height - 1);
    }

    private int heldOnLine(int first, int step) {
        int held = 0;
        for (int value = 0; value < VALUES; value++) {
            if (cells[first + value * step]) {
                held++;
            }
        }
        return held;
    }

    private void fillLine(int first, int step, boolean answer) {
        for (int value = 0; value < VALUES; value++) {
            cells[first + value * step] = answer;
        }
    }

    private int heldTriples(int place) {
        int start = place * TRIPLES;
        int held = 0;
        for (int number = 0; number < TRIPLES; number++) {
            if (cells[start + number]) {
                held++;
            }
        }
        return held;
    }

    private boolean isSubset(int inner, int outer) {
        int innerStart = inner * TRIPLES;
        int outerStart = outer * TRIPLES;
        for (int number = 0; number < TRIPLES; number++) {
            if (cells[innerStart + number] && !cells[outerStart + number]) {
                return false;
            }
        }
        return true;
    }

    private boolean isTaken(int place, int v, int value) {
        int start = place * TRIPLES;
        for (int number = 0; number < TRIPLES; number++) {
            if (valueOf(number, v) == value && cells[start + number]) {
                return true;
            }
        }
        return false;
    }
}
