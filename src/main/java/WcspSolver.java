/**
 * Least-cost choices for a few variables with cost tables.
 *
 * <p>There are at most 3^6 assignments, so every question goes through all of them afresh: nothing
 * is remembered between calls that a change of costs could make stale.
 */
public final class WcspSolver {
    public static final int FORBIDDEN = 99;

    private static final int MIN_VARS = 2;
    private static final int MAX_VARS = 6;
    private static final int MIN_VALUES = 2;
    private static final int MAX_VALUES = 3;
    private static final int MAX_COST = 40;
    private static final int MAX_WEIGHT = 10;
    private static final int LAST_KIND = 2;
    private static final int UNARY_CELLS = MAX_VARS * MAX_VALUES;
    private static final int BINARY_CELLS = UNARY_CELLS * UNARY_CELLS;

    /** Stands for "no cost": below every true cost, so it never meets one in a comparison. */
    private static final int NONE = -1;

    /** The document's n and d; both are at least 2, so they are safe divisors. */
    private final int n;
    private final int d;

    /** d^n. */
    private final int assignments;

    private final int[] unaryCosts = new int[UNARY_CELLS];

    /** Only the cells of pairs u < v are used, so that either order of a pair meets one cell. */
    private final int[] binaryCosts = new int[BINARY_CELLS];

    private final int[] allowedSets = new int[MAX_VARS];

    public WcspSolver(int vars, int values) {
        n = clamp(vars, MIN_VARS, MAX_VARS);
        d = clamp(values, MIN_VALUES, MAX_VALUES);
        int product = 1;
        for (int v = 0; v < n; v++) {
            product = product * d;
            allowedSets[v] = (1 << d) - 1;
        }
        assignments = product;
    }

    public int unary(int v, int a, int cost) {
        if (!isVariable(v)) {
            return -1;
        }
        if (!isValue(a)) {
            return -2;
        }
        if (!isCost(cost)) {
            return -3;
        }
        int cell = unaryCell(v, a);
        int before = unaryCosts[cell];
        unaryCosts[cell] = cost;
        return before;
    }

    public int binary(int pair, int values, int cost) {
        if (!isPair(pair)) {
            return -1;
        }
        if (!isTwoValues(values)) {
            return -2;
        }
        if (!isCost(cost)) {
            return -3;
        }
        int cell = binaryCell(pair, values);
        int before = binaryCosts[cell];
        binaryCosts[cell] = cost;
        return before;
    }

    public int relate(int pair, int kind, int weight) {
        if (!isPair(pair)) {
            return -1;
        }
        if (kind < 0 || kind > LAST_KIND) {
            return -2;
        }
        if (weight < 0 || weight > MAX_WEIGHT) {
            return -3;
        }
        for (int values = 0; values < d * d; values++) {
            int cell = binaryCell(pair, values);
            binaryCosts[cell] = weight * relation(kind, values / d, values % d);
        }
        return 0;
    }

    public int unaryCost(int v, int a) {
        if (!isVariable(v) || !isValue(a)) {
            return -1;
        }
        return unaryCosts[unaryCell(v, a)];
    }

    public int binaryCost(int pair, int values) {
        if (!isPair(pair) || !isTwoValues(values)) {
            return -1;
        }
        return binaryCosts[binaryCell(pair, values)];
    }

    public int allow(int v, int set) {
        if (!isVariable(v)) {
            return -1;
        }
        if (set < 1 || set > (1 << d) - 1) {
            return -2;
        }
        int before = allowedSets[v];
        allowedSets[v] = set;
        return before;
    }

    public int best() {
        return leastAbove(NONE);
    }

    public int bestCount() {
        int least = leastAbove(NONE);
        return countAtMost(least);
    }

    public int bestValue(int v) {
        if (!isVariable(v)) {
            return -1;
        }
        int least = leastAbove(NONE);
        if (least == NONE) {
            return -2;
        }
        int first = firstWithCost(least);
        return valueIn(first, v);
    }

    public int bestWith(int v, int a) {
        if (!isVariable(v)) {
            return -1;
        }
        if (!isValue(a)) {
            return -2;
        }
        int least = leastWith(v, a, v, a);
        return least == NONE ? -3 : least;
    }

    public int bestWithPair(int pair, int values) {
        if (!isPair(pair)) {
            return -1;
        }
        if (!isTwoValues(values)) {
            return -2;
        }
        int least = leastWith(pair / n, values / d, pair % n, values % d);
        return least == NONE ? -3 : least;
    }

    public int countUpTo(int bound) {
        return countAtMost(bound);
    }

    public int nextCost(int cost) {
        return leastAbove(cost);
    }

    public int costOf(int number) {
        if (number < 0 || number >= assignments) {
            return -1;
        }
        int cost = solutionCost(number);
        return cost == NONE ? -2 : cost;
    }

    public int choices(int v) {
        if (!isVariable(v)) {
            return -1;
        }
        int least = leastAbove(NONE);
        if (least == NONE) {
            return 0;
        }
        int count = 0;
        for (int a = 0; a < d; a++) {
            if (leastWith(v, a, v, a) == least) {
                count++;
            }
        }
        return count;
    }

    private static int clamp(int number, int low, int high) {
        if (number < low) {
            return low;
        }
        return number > high ? high : number;
    }

    private static boolean isCost(int cost) {
        return (cost >= 0 && cost <= MAX_COST) || cost == FORBIDDEN;
    }

    /** The document's t in promise 4. */
    private static int relation(int kind, int a, int b) {
        if (kind == 0) {
            return a > b ? a - b : b - a;
        }
        if (kind == 1) {
            return a == b ? 1 : 0;
        }
        return a * b;
    }

    private boolean isVariable(int v) {
        return v >= 0 && v < n;
    }

    private boolean isValue(int a) {
        return a >= 0 && a < d;
    }

    private boolean isPair(int pair) {
        return pair >= 0 && pair < n * n && pair / n != pair % n;
    }

    private boolean isTwoValues(int values) {
        return values >= 0 && values < d * d;
    }

    private boolean isAllowed(int v, int a) {
        return (allowedSets[v] >> a & 1) == 1;
    }

    private int unaryCell(int v, int a) {
        return v * d + a;
    }

    private int binaryCell(int pair, int values) {
        int u = pair / n;
        int v = pair % n;
        if (u < v) {
            return pair * d * d + values;
        }
        int a = values / d;
        int b = values % d;
        return (n * v + u) * d * d + d * b + a;
    }

    /** The value that the assignment gives variable v: variable 0 is the first digit. */
    private int valueIn(int number, int v) {
        int rest = number;
        for (int last = n - 1; last > v; last--) {
            rest = rest / d;
        }
        return rest % d;
    }

    /** The cost of the assignment, or NONE if it is no solution. */
    private int solutionCost(int number) {
        int sum = 0;
        int rest = number;
        for (int v = n - 1; v >= 0; v--) {
            int a = rest % d;
            rest = rest / d;
            int unaryPart = unaryCosts[unaryCell(v, a)];
            int binaryPart = costWithEarlier(rest, v, a);
            if (!isAllowed(v, a) || unaryPart == FORBIDDEN || binaryPart == NONE) {
                return NONE;
            }
            sum = sum + unaryPart + binaryPart;
        }
        return sum;
    }

    /**
     * The sum of the binary costs of variable v's value a and the values of the variables before v,
     * whose digits are earlier, or NONE if one of those costs is FORBIDDEN.
     */
    private int costWithEarlier(int earlier, int v, int a) {
        int sum = 0;
        int rest = earlier;
        for (int u = v - 1; u >= 0; u--) {
            int b = rest % d;
            rest = rest / d;
            int cost = binaryCosts[binaryCell(n * u + v, d * b + a)];
            if (cost == FORBIDDEN) {
                return NONE;
            }
            sum = sum + cost;
        }
        return sum;
    }

    /** The least cost of a solution that is greater than bound, or NONE. */
    private int leastAbove(int bound) {
        int least = NONE;
        for (int number = 0; number < assignments; number++) {
            int cost = solutionCost(number);
            if (cost != NONE && cost > bound && (least == NONE || cost < least)) {
                least = cost;
            }
        }
        return least;
    }

    /** The least cost of a solution that gives u the value a and v the value b, or NONE. */
    private int leastWith(int u, int a, int v, int b) {
        int least = NONE;
        for (int number = 0; number < assignments; number++) {
            if (valueIn(number, u) == a && valueIn(number, v) == b) {
                int cost = solutionCost(number);
                if (cost != NONE && (least == NONE || cost < least)) {
                    least = cost;
                }
            }
        }
        return least;
    }

    private int countAtMost(int bound) {
        int count = 0;
        for (int number = 0; number < assignments; number++) {
            int cost = solutionCost(number);
            if (cost != NONE && cost <= bound) {
                count++;
            }
        }
        return count;
    }

    /** The least number of a solution with this cost; the caller knows that there is one. */
    private int firstWithCost(int cost) {
        for (int number = 0; number < assignments; number++) {
            if (solutionCost(number) == cost) {
                return number;
            }
        }
        return 0;
    }
}
