/**
 * Runs the tests that belong to one sentence of the document each, and tells which sentences do not
 * hold. A test is made for every size, because most boundaries lie elsewhere for another n or d.
 */
final class Sentences {
    /** One test, for an object with n variables and d values. */
    interface Check {
        void at(int n, int d);
    }

    /** Ends a test at its first wrong answer: what an object answers after one says nothing more. */
    private static final class WrongAnswer extends RuntimeException {
        private static final long serialVersionUID = 1;
    }

    private int sentences = 0;
    private int broken = 0;
    private int answers = 0;
    private int wrong = 0;
    private String size = "";

    void sentence(String where, String words, Check check) {
        sentences++;
        answers = 0;
        wrong = 0;
        for (int n = 2; n <= 6; n++) {
            for (int d = 2; d <= 3; d++) {
                size = "n " + n + " d " + d + ": ";
                run(check, n, d);
            }
        }
        // A test that asks nothing would hold whatever the program does.
        if (wrong > 0 || answers == 0) {
            broken++;
            System.out.println("BROKEN " + where + ": \"" + words + "\"");
        }
    }

    /** A call that throws breaks this sentence, but the others are still tested. */
    private void run(Check check, int n, int d) {
        try {
            check.at(n, d);
        } catch (WrongAnswer told) {
            wrong++;
        } catch (RuntimeException thrown) {
            wrong++;
            System.out.println("  " + size + "a call threw " + thrown);
        }
    }

    void due(String call, int got, int want) {
        answers++;
        if (got != want) {
            System.out.println("  " + size + call + " answered " + got + ", due is " + want);
            throw new WrongAnswer();
        }
    }

    void end() {
        System.out.println(sentences + " sentences, " + broken + " broken");
        if (broken != 0) {
            System.exit(1);
        }
    }

    static int power(int d, int n) {
        int product = 1;
        for (int i = 0; i < n; i++) {
            product *= d;
        }
        return product;
    }

    /**
     * Numbers outside low .. high: the next ones, the farthest ones, and some that a narrower type
     * or a product that wraps around would bring back inside.
     */
    static int[] outside(int low, int high) {
        return new int[] {low - 1, low - 2, low - 256, low - 65536, -(1 << 30), Integer.MIN_VALUE,
            Integer.MIN_VALUE + 1, high + 1, high + 2, high + 256, high + 65536, 1 << 30,
            Integer.MAX_VALUE - 1, Integer.MAX_VALUE};
    }

    /** No cost of the document: the neighbours of 0, 40 and 99, and far ones. */
    static int[] noCosts() {
        return new int[] {-1, -2, -40, -99, 41, 42, 50, 97, 98, 100, 101, 255, 256, 99 + 256, 99 - 256,
            65536, 65536 + 99, Integer.MIN_VALUE, Integer.MIN_VALUE + 99, Integer.MAX_VALUE};
    }

    /** The pairs of a variable with itself. */
    static int[] samePairs(int n) {
        int[] pairs = new int[n];
        for (int v = 0; v < n; v++) {
            pairs[v] = n * v + v;
        }
        return pairs;
    }

    /** The pairs n * u + v of two different variables, in both orders. */
    static int[] goodPairs(int n) {
        int[] pairs = new int[n * (n - 1)];
        int count = 0;
        for (int pair = 0; pair < n * n; pair++) {
            if (pair / n != pair % n) {
                pairs[count++] = pair;
            }
        }
        return pairs;
    }

    /** The pair with its variables in the other order. */
    static int turnedPair(int n, int pair) {
        return n * (pair % n) + pair / n;
    }

    static int turnedValues(int d, int values) {
        return d * (values % d) + values / d;
    }

    /** The value that the assignment with this number gives variable v. */
    static int digit(int n, int d, int number, int v) {
        return number / power(d, n - 1 - v) % d;
    }

    /** An object with other costs and allowed sets than a new one, solvable. At most 159 calls. */
    static WcspSolver filled(int n, int d) {
        WcspSolver x = new WcspSolver(n, d);
        for (int v = 0; v < n; v++) {
            for (int a = 0; a < d; a++) {
                x.unary(v, a, 1 + (5 * (d * v + a)) % 39);
            }
            x.allow(v, 1 + v % ((1 << d) - 1));
        }
        for (int pair : goodPairs(n)) {
            for (int values = 0; values < d * d && pair / n < pair % n; values++) {
                x.binary(pair, values, 1 + (7 * pair + 3 * values) % 39);
            }
        }
        return x;
    }

    /**
     * Asks both objects for everything they hold. At most 177 calls of each, and it sets the allowed
     * values to learn them, so it is the last thing that is done with the objects.
     */
    void same(String after, WcspSolver x, WcspSolver y, int n, int d) {
        for (int v = 0; v < n; v++) {
            for (int a = 0; a < d; a++) {
                due(after + ", then unaryCost(" + v + ", " + a + ")", x.unaryCost(v, a), y.unaryCost(v, a));
            }
            due(after + ", then bestValue(" + v + ")", x.bestValue(v), y.bestValue(v));
            due(after + ", then choices(" + v + ")", x.choices(v), y.choices(v));
        }
        for (int pair : goodPairs(n)) {
            for (int values = 0; values < d * d && pair / n < pair % n; values++) {
                due(after + ", then binaryCost(" + pair + ", " + values + ")",
                        x.binaryCost(pair, values), y.binaryCost(pair, values));
            }
        }
        due(after + ", then best()", x.best(), y.best());
        due(after + ", then bestCount()", x.bestCount(), y.bestCount());
        due(after + ", then countUpTo(2000)", x.countUpTo(2000), y.countUpTo(2000));
        for (int v = 0; v < n; v++) {
            due(after + ", then allow(" + v + ", 1)", x.allow(v, 1), y.allow(v, 1));
        }
    }

    /** Objects without a solution, each for another reason. */
    static WcspSolver[] unsolvable(int n, int d) {
        return new WcspSolver[] {everyValueForbidden(n, d), onlyValueForbidden(n, d), everyPairForbidden(n, d)};
    }

    private static WcspSolver everyValueForbidden(int n, int d) {
        WcspSolver x = new WcspSolver(n, d);
        for (int a = 0; a < d; a++) {
            x.unary(n - 1, a, WcspSolver.FORBIDDEN);
        }
        return x;
    }

    private static WcspSolver onlyValueForbidden(int n, int d) {
        WcspSolver x = new WcspSolver(n, d);
        x.unary(0, d - 1, WcspSolver.FORBIDDEN);
        x.allow(0, 1 << (d - 1));
        return x;
    }

    private static WcspSolver everyPairForbidden(int n, int d) {
        WcspSolver x = new WcspSolver(n, d);
        for (int values = 0; values < d * d; values++) {
            x.binary(n * (n - 2) + n - 1, values, WcspSolver.FORBIDDEN);
        }
        return x;
    }
}
