/** The boundary cases of promises 8 to 16 (what is asked about solutions), one test for each sentence. */
public final class QuestionsTest {
    private static final int F = WcspSolver.FORBIDDEN;
    private static final int MIN = Integer.MIN_VALUE;
    private static final int MAX = Integer.MAX_VALUE;

    /** After so many questions a new object is taken, because one is good for 512 calls only. */
    private static final int ASKED = 400;

    private static final Sentences S = new Sentences();

    public static void main(String[] args) {
        S.sentence("Promise 8", "The cost of a best solution", QuestionsTest::bestIsLeast);
        S.sentence("Promise 8", "-1 if there is no solution", QuestionsTest::bestOfNone);
        S.sentence("Promise 9", "How many best solutions there are", QuestionsTest::bestCounts);
        S.sentence("Promise 9", "0 if there is no solution", QuestionsTest::bestCountOfNone);
        S.sentence("Promise 10", "The value of variable v in the first best solution", QuestionsTest::bestValues);
        S.sentence("Promise 10", "-1 if v is not good", QuestionsTest::bestValueVariable);
        S.sentence("Promise 10", "-2 if there is no solution", QuestionsTest::bestValueOfNone);
        S.sentence("Promise 11", "The least cost of a solution that gives variable v the value a",
                QuestionsTest::bestWithIsLeast);
        S.sentence("Promise 11", "-1 if v is not good", QuestionsTest::bestWithVariable);
        S.sentence("Promise 11", "-2 if a is not good", QuestionsTest::bestWithValue);
        S.sentence("Promise 11", "-3 if there is no such solution (none at all)", QuestionsTest::bestWithOfNone);
        S.sentence("Promise 11", "-3 if there is no such solution (others are)", QuestionsTest::bestWithoutSuch);
        S.sentence("Promise 12", "gives u the value a and v the value b, given as in binary",
                QuestionsTest::bestWithPairIsLeast);
        S.sentence("Promise 12", "-1 if pair is refused there (range)", QuestionsTest::bestWithPairRange);
        S.sentence("Promise 12", "-1 if pair is refused there (the same)", QuestionsTest::bestWithPairSame);
        S.sentence("Promise 12", "-2 if values is", QuestionsTest::bestWithPairValues);
        S.sentence("Promise 12", "-3 if there is no such solution (none at all)",
                QuestionsTest::bestWithPairOfNone);
        S.sentence("Promise 12", "-3 if there is no such solution (others are)",
                QuestionsTest::bestWithPairWithoutSuch);
        S.sentence("Promise 13", "have a cost of at most bound", QuestionsTest::countsAtMost);
        S.sentence("Promise 13", "any int", QuestionsTest::countsForAnyInt);
        S.sentence("Promise 13", "How many solutions (none)", QuestionsTest::countsOfNone);
        S.sentence("Promise 14", "that is greater than cost", QuestionsTest::nextIsGreater);
        S.sentence("Promise 14", "any int", QuestionsTest::nextForAnyInt);
        S.sentence("Promise 14", "-1 if there is none", QuestionsTest::nextOfNone);
        S.sentence("Promise 15", "the sum of its costs", QuestionsTest::costOfIsTheSum);
        S.sentence("Promise 15", "-1 if number is not in 0 .. d^n - 1", QuestionsTest::costOfNumber);
        S.sentence("Promise 15", "-2 if one of the costs is FORBIDDEN (unary)", QuestionsTest::costOfForbiddenUnary);
        S.sentence("Promise 15", "-2 if one of the costs is FORBIDDEN (binary)",
                QuestionsTest::costOfForbiddenBinary);
        S.sentence("Promise 15", "-2 if .. one of the values is not allowed", QuestionsTest::costOfNotAllowed);
        S.sentence("Promise 16", "such that some best solution gives v the value a", QuestionsTest::choicesOfBest);
        S.sentence("Promise 16", "How many values (without a solution)", QuestionsTest::choicesOfNone);
        S.sentence("Promise 16", "-1 if v is not good", QuestionsTest::choicesVariable);
        S.end();
    }

    /**
     * Every assignment has another cost than the ones with other numbers of ones and twos: value a
     * of variable v costs a * (v + 1).
     */
    private static WcspSolver stairs(int n, int d) {
        WcspSolver x = new WcspSolver(n, d);
        for (int v = 0; v < n; v++) {
            for (int a = 0; a < d; a++) {
                x.unary(v, a, a * (v + 1));
            }
        }
        return x;
    }

    /** Only this assignment is a solution. */
    private static WcspSolver onlySolution(int n, int d, int number) {
        WcspSolver x = new WcspSolver(n, d);
        for (int v = 0; v < n; v++) {
            x.allow(v, 1 << Sentences.digit(n, d, number, v));
        }
        return x;
    }

    private static void bestIsLeast(int n, int d) {
        S.due("best() of a new object", new WcspSolver(n, d).best(), 0);
        for (int v = 0; v < n; v++) {
            WcspSolver x = stairs(n, d);
            x.allow(v, 1 << (d - 1));
            S.due("best() when " + v + " is d - 1", x.best(), (d - 1) * (v + 1));
        }
        for (int number = 0; number < Sentences.power(d, n); number++) {
            WcspSolver x = onlySolution(n, d, number);
            x.unary(0, Sentences.digit(n, d, number, 0), 40);
            S.due("best() of " + number, x.best(), 40);
        }
    }

    private static void bestOfNone(int n, int d) {
        for (WcspSolver x : Sentences.unsolvable(n, d)) {
            S.due("best()", x.best(), -1);
        }
        WcspSolver x = onlySolution(n, d, 0);
        x.unary(n - 1, 0, F);
        S.due("best() when the last solution goes", x.best(), -1);
        x.unary(n - 1, 0, 40);
        S.due("best() when it comes back", x.best(), 40);
    }

    private static void bestCounts(int n, int d) {
        int count = Sentences.power(d, n);
        S.due("bestCount() of a new object", new WcspSolver(n, d).bestCount(), count);
        for (int v = 0; v < n; v++) {
            WcspSolver x = new WcspSolver(n, d);
            x.unary(v, 0, 1);
            S.due("bestCount() without one value", x.bestCount(), (d - 1) * (count / d));
        }
        for (int number = 0; number < count; number++) {
            S.due("bestCount() of " + number, onlySolution(n, d, number).bestCount(), 1);
        }
        S.due("bestCount() of stairs", stairs(n, d).bestCount(), 1);
    }

    private static void bestCountOfNone(int n, int d) {
        for (WcspSolver x : Sentences.unsolvable(n, d)) {
            S.due("bestCount()", x.bestCount(), 0);
        }
    }

    private static void bestValues(int n, int d) {
        for (int v = 0; v < n; v++) {
            S.due("bestValue(" + v + ") of a new object", new WcspSolver(n, d).bestValue(v), 0);
            WcspSolver x = new WcspSolver(n, d);
            x.unary(v, 0, 1);
            for (int w = 0; w < n; w++) {
                S.due("unary(" + v + ", 0, 1), then bestValue(" + w + ")", x.bestValue(w), w == v ? 1 : 0);
            }
        }
        WcspSolver last = onlySolution(n, d, Sentences.power(d, n) - 1);
        for (int v = 0; v < n; v++) {
            S.due("bestValue(" + v + ") of the last number", last.bestValue(v), d - 1);
        }
    }

    private static void bestValueVariable(int n, int d) {
        WcspSolver x = stairs(n, d);
        for (int v : Sentences.outside(0, n - 1)) {
            S.due("bestValue(" + v + ")", x.bestValue(v), -1);
        }
        S.due("bestValue(0)", x.bestValue(0), 0);
        S.due("bestValue(n - 1)", x.bestValue(n - 1), 0);
    }

    private static void bestValueOfNone(int n, int d) {
        for (WcspSolver x : Sentences.unsolvable(n, d)) {
            for (int v = 0; v < n; v++) {
                S.due("bestValue(" + v + ")", x.bestValue(v), -2);
            }
        }
    }

    private static void bestWithIsLeast(int n, int d) {
        WcspSolver x = stairs(n, d);
        for (int v = 0; v < n; v++) {
            for (int a = 0; a < d; a++) {
                S.due("bestWith(" + v + ", " + a + ")", x.bestWith(v, a), a * (v + 1));
            }
        }
        x.relate(1, 1, 10);
        S.due("bestWith(0, 0) when 0 and 1 differ", x.bestWith(0, 0), 2);
        S.due("bestWith(1, 0) when 0 and 1 differ", x.bestWith(1, 0), 1);
        S.due("bestWith(1, 1) when 0 and 1 differ", x.bestWith(1, 1), 2);
    }

    private static void bestWithVariable(int n, int d) {
        WcspSolver x = stairs(n, d);
        for (int v : Sentences.outside(0, n - 1)) {
            S.due("bestWith(" + v + ", 0)", x.bestWith(v, 0), -1);
            S.due("bestWith(" + v + ", d - 1)", x.bestWith(v, d - 1), -1);
        }
        S.due("bestWith(n - 1, 1)", x.bestWith(n - 1, 1), n);
    }

    private static void bestWithValue(int n, int d) {
        WcspSolver x = stairs(n, d);
        for (int a : Sentences.outside(0, d - 1)) {
            S.due("bestWith(0, " + a + ")", x.bestWith(0, a), -2);
            S.due("bestWith(n - 1, " + a + ")", x.bestWith(n - 1, a), -2);
        }
        S.due("bestWith(0, d - 1)", x.bestWith(0, d - 1), d - 1);
    }

    private static void bestWithOfNone(int n, int d) {
        for (WcspSolver x : Sentences.unsolvable(n, d)) {
            for (int v = 0; v < n; v++) {
                for (int a = 0; a < d; a++) {
                    S.due("bestWith(" + v + ", " + a + ")", x.bestWith(v, a), -3);
                }
            }
        }
    }

    private static void bestWithoutSuch(int n, int d) {
        for (int v = 0; v < n; v++) {
            WcspSolver disallowed = new WcspSolver(n, d);
            disallowed.allow(v, 1);
            S.due("bestWith(" + v + ", 1) not allowed", disallowed.bestWith(v, 1), -3);
            S.due("bestWith(" + v + ", 0) allowed", disallowed.bestWith(v, 0), 0);
            WcspSolver forbidden = new WcspSolver(n, d);
            forbidden.unary(v, 1, F);
            S.due("bestWith(" + v + ", 1) forbidden", forbidden.bestWith(v, 1), -3);
            S.due("bestWith(" + v + ", 0) not forbidden", forbidden.bestWith(v, 0), 0);
            WcspSolver alone = new WcspSolver(n, d);
            int other = (v + 1) % n;
            for (int b = 0; b < d; b++) {
                alone.binary(n * v + other, d + b, F);
            }
            S.due("bestWith(" + v + ", 1) forbidden with all of " + other, alone.bestWith(v, 1), -3);
            S.due("bestWith(" + v + ", 0) not forbidden there", alone.bestWith(v, 0), 0);
        }
    }

    private static void bestWithPairIsLeast(int n, int d) {
        WcspSolver x = stairs(n, d);
        for (int pair : Sentences.goodPairs(n)) {
            for (int values = 0; values < d * d; values++) {
                int want = values / d * (pair / n + 1) + values % d * (pair % n + 1);
                S.due("bestWithPair(" + pair + ", " + values + ")", x.bestWithPair(pair, values), want);
            }
            WcspSolver y = new WcspSolver(n, d);
            y.binary(pair, 1, 9);
            for (int values = 0; values < d * d; values++) {
                int back = Sentences.turnedValues(d, values);
                int turned = Sentences.turnedPair(n, pair);
                int want = values == 1 ? 9 : 0;
                String name = "binary(" + pair + ", 1, 9), then bestWithPair(";
                S.due(name + pair + ", " + values + ")", y.bestWithPair(pair, values), want);
                S.due(name + turned + ", " + back + ")", y.bestWithPair(turned, back), want);
            }
        }
    }

    private static void bestWithPairRange(int n, int d) {
        WcspSolver x = stairs(n, d);
        for (int pair : Sentences.outside(0, n * n - 1)) {
            S.due("bestWithPair(" + pair + ", 0)", x.bestWithPair(pair, 0), -1);
            S.due("bestWithPair(" + pair + ", d*d - 1)", x.bestWithPair(pair, d * d - 1), -1);
        }
        S.due("bestWithPair(1, 0), the least pair", x.bestWithPair(1, 0), 0);
        S.due("bestWithPair(n*n - 2, 1), the greatest pair", x.bestWithPair(n * n - 2, 1), n - 1);
    }

    private static void bestWithPairSame(int n, int d) {
        WcspSolver x = stairs(n, d);
        for (int pair : Sentences.samePairs(n)) {
            for (int values = 0; values < d * d; values++) {
                S.due("bestWithPair(" + pair + ", " + values + ")", x.bestWithPair(pair, values), -1);
            }
        }
    }

    private static void bestWithPairValues(int n, int d) {
        WcspSolver x = stairs(n, d);
        for (int values : Sentences.outside(0, d * d - 1)) {
            S.due("bestWithPair(1, " + values + ")", x.bestWithPair(1, values), -2);
            S.due("bestWithPair(n*n - 2, " + values + ")", x.bestWithPair(n * n - 2, values), -2);
        }
        S.due("bestWithPair(1, d*d - 1)", x.bestWithPair(1, d * d - 1), 3 * (d - 1));
    }

    private static void bestWithPairOfNone(int n, int d) {
        for (WcspSolver x : Sentences.unsolvable(n, d)) {
            for (int pair : Sentences.goodPairs(n)) {
                S.due("bestWithPair(" + pair + ", 0)", x.bestWithPair(pair, 0), -3);
                S.due("bestWithPair(" + pair + ", d*d - 1)", x.bestWithPair(pair, d * d - 1), -3);
            }
        }
    }

    private static void bestWithPairWithoutSuch(int n, int d) {
        for (int pair : Sentences.goodPairs(n)) {
            String name = "bestWithPair(" + pair + ", 0*d + 1) ";
            WcspSolver first = new WcspSolver(n, d);
            first.allow(pair / n, 2);
            S.due(name + "u not allowed", first.bestWithPair(pair, 1), -3);
            S.due(name + "but u = 1 is", first.bestWithPair(pair, d + 1), 0);
            WcspSolver second = new WcspSolver(n, d);
            second.allow(pair % n, 1);
            S.due(name + "v not allowed", second.bestWithPair(pair, 1), -3);
            S.due(name + "but v = 0 is", second.bestWithPair(pair, 0), 0);
            WcspSolver third = new WcspSolver(n, d);
            third.unary(pair / n, 0, F);
            S.due(name + "u forbidden", third.bestWithPair(pair, 1), -3);
            WcspSolver fourth = new WcspSolver(n, d);
            fourth.unary(pair % n, 1, F);
            S.due(name + "v forbidden", fourth.bestWithPair(pair, 1), -3);
            WcspSolver fifth = new WcspSolver(n, d);
            fifth.binary(pair, 1, F);
            S.due(name + "both forbidden", fifth.bestWithPair(pair, 1), -3);
            S.due(name + "but not turned", fifth.bestWithPair(pair, d), 0);
        }
    }

    /** Two variables step by step, the others at no cost, so that each count is known. */
    private static void countsAtMost(int n, int d) {
        WcspSolver x = new WcspSolver(n, d);
        for (int v = 0; v < n; v++) {
            x.allow(v, v < 2 ? 3 : 1);
        }
        x.unary(0, 0, 5);
        x.unary(0, 1, 15);
        x.unary(1, 1, 20);
        x.binary(1, d + 1, 40);
        int[] bounds = {4, 5, 6, 14, 15, 16, 24, 25, 26, 74, 75, 76};
        int[] counts = {0, 1, 1, 1, 2, 2, 2, 3, 3, 3, 4, 4};
        for (int i = 0; i < bounds.length; i++) {
            S.due("countUpTo(" + bounds[i] + ")", x.countUpTo(bounds[i]), counts[i]);
        }
        x.binary(1, d + 1, F);
        S.due("countUpTo(76) with one forbidden", x.countUpTo(76), 3);
    }

    private static void countsForAnyInt(int n, int d) {
        WcspSolver x = new WcspSolver(n, d);
        x.unary(0, 0, F);
        x.allow(1, 1);
        int count = (d - 1) * Sentences.power(d, n - 2);
        for (int bound : new int[] {MIN, MIN + 1, -99, -3, -2, -1}) {
            S.due("countUpTo(" + bound + ")", x.countUpTo(bound), 0);
        }
        for (int bound : new int[] {0, 1, 98, 99, 100, 841, MAX - 1, MAX}) {
            S.due("countUpTo(" + bound + ")", x.countUpTo(bound), count);
        }
    }

    private static void countsOfNone(int n, int d) {
        for (WcspSolver x : Sentences.unsolvable(n, d)) {
            for (int bound : new int[] {MIN, -2, -1, 0, 99, MAX}) {
                S.due("countUpTo(" + bound + ")", x.countUpTo(bound), 0);
            }
        }
    }

    private static void nextIsGreater(int n, int d) {
        WcspSolver x = new WcspSolver(n, d);
        for (int v = 0; v < n; v++) {
            x.allow(v, v < 2 ? 3 : 1);
        }
        x.unary(0, 0, 5);
        x.unary(0, 1, 15);
        x.unary(1, 1, 20);
        x.binary(1, d + 1, 40);
        int[] costs = {-1, 0, 4, 5, 6, 14, 15, 16, 24, 25, 26, 74, 75, 76};
        int[] nexts = {5, 5, 5, 15, 15, 15, 25, 25, 25, 75, 75, 75, -1, -1};
        for (int i = 0; i < costs.length; i++) {
            S.due("nextCost(" + costs[i] + ")", x.nextCost(costs[i]), nexts[i]);
        }
        x.binary(1, d + 1, F);
        S.due("nextCost(25) with one forbidden", x.nextCost(25), -1);
        x.allow(1, 1);
        S.due("nextCost(15) with one not allowed", x.nextCost(15), -1);
    }

    private static void nextForAnyInt(int n, int d) {
        WcspSolver fresh = new WcspSolver(n, d);
        WcspSolver x = stairs(n, d);
        x.allow(0, 2);
        for (int cost : new int[] {MIN, MIN + 1, -1000, -99, -3, -2, -1}) {
            S.due("nextCost(" + cost + ") of a new object", fresh.nextCost(cost), 0);
            S.due("nextCost(" + cost + ")", x.nextCost(cost), 1);
        }
        for (int cost : new int[] {840, 841, 5000, MAX - 1, MAX}) {
            S.due("nextCost(" + cost + ") of a new object", fresh.nextCost(cost), -1);
            S.due("nextCost(" + cost + ")", x.nextCost(cost), -1);
        }
    }

    private static void nextOfNone(int n, int d) {
        S.due("nextCost(0) of a new object", new WcspSolver(n, d).nextCost(0), -1);
        for (WcspSolver x : Sentences.unsolvable(n, d)) {
            for (int cost : new int[] {MIN, -2, -1, 0, 99, MAX}) {
                S.due("nextCost(" + cost + ")", x.nextCost(cost), -1);
            }
        }
    }

    private static void costOfIsTheSum(int n, int d) {
        WcspSolver x = null;
        for (int number = 0; number < Sentences.power(d, n); number++) {
            if (number % ASKED == 0) {
                x = stairs(n, d);
                x.relate(1, 2, 10);
                x.relate(n - 1, 0, 3);
            }
            int sum = 0;
            for (int v = 0; v < n; v++) {
                sum += Sentences.digit(n, d, number, v) * (v + 1);
            }
            int first = Sentences.digit(n, d, number, 0);
            int second = Sentences.digit(n, d, number, 1);
            int last = Sentences.digit(n, d, number, n - 1);
            sum += Math.abs(first - last) * 3;
            // With two variables the second relate stands on the place of the first.
            sum += n > 2 ? 10 * first * second : 0;
            S.due("costOf(" + number + ")", x.costOf(number), sum);
        }
    }

    private static void costOfNumber(int n, int d) {
        int count = Sentences.power(d, n);
        WcspSolver x = stairs(n, d);
        for (int number : Sentences.outside(0, count - 1)) {
            S.due("costOf(" + number + ")", x.costOf(number), -1);
        }
        S.due("costOf(0)", x.costOf(0), 0);
        S.due("costOf(d^n - 1)", x.costOf(count - 1), (d - 1) * (n * (n + 1) / 2));
    }

    private static void costOfForbiddenUnary(int n, int d) {
        for (int v = 0; v < n; v++) {
            for (int a = 0; a < d; a++) {
                WcspSolver x = null;
                for (int number = 0; number < Sentences.power(d, n); number++) {
                    if (number % ASKED == 0) {
                        x = new WcspSolver(n, d);
                        x.unary(v, a, F);
                    }
                    int want = Sentences.digit(n, d, number, v) == a ? -2 : 0;
                    S.due("unary(" + v + ", " + a + ", 99), then costOf(" + number + ")", x.costOf(number), want);
                }
            }
        }
    }

    private static void costOfForbiddenBinary(int n, int d) {
        for (int pair : Sentences.goodPairs(n)) {
            for (int values = 0; values < d * d; values++) {
                WcspSolver x = null;
                for (int number = 0; number < Sentences.power(d, n); number++) {
                    if (number % ASKED == 0) {
                        x = new WcspSolver(n, d);
                        x.binary(pair, values, F);
                    }
                    boolean hit = Sentences.digit(n, d, number, pair / n) == values / d
                            && Sentences.digit(n, d, number, pair % n) == values % d;
                    S.due("binary(" + pair + ", " + values + ", 99), then costOf(" + number + ")",
                            x.costOf(number), hit ? -2 : 0);
                }
            }
        }
    }

    private static void costOfNotAllowed(int n, int d) {
        for (int v = 0; v < n; v++) {
            for (int set = 1; set < 1 << d; set++) {
                WcspSolver x = null;
                for (int number = 0; number < Sentences.power(d, n); number++) {
                    if (number % ASKED == 0) {
                        x = new WcspSolver(n, d);
                        x.allow(v, set);
                    }
                    int want = (set >> Sentences.digit(n, d, number, v) & 1) == 1 ? 0 : -2;
                    S.due("allow(" + v + ", " + set + "), then costOf(" + number + ")", x.costOf(number), want);
                }
            }
        }
    }

    private static void choicesOfBest(int n, int d) {
        for (int v = 0; v < n; v++) {
            S.due("choices(" + v + ") of a new object", new WcspSolver(n, d).choices(v), d);
            for (int set = 1; set < 1 << d; set++) {
                WcspSolver x = new WcspSolver(n, d);
                x.allow(v, set);
                S.due("allow(" + v + ", " + set + "), then choices", x.choices(v), Integer.bitCount(set));
            }
            WcspSolver x = new WcspSolver(n, d);
            x.unary(v, 0, 1);
            S.due("unary(" + v + ", 0, 1), then choices", x.choices(v), d - 1);
            S.due("unary(" + v + ", 0, 1), then choices of another", x.choices((v + 1) % n), d);
            S.due("choices(" + v + ") of one best solution", stairs(n, d).choices(v), 1);
        }
    }

    private static void choicesOfNone(int n, int d) {
        for (WcspSolver x : Sentences.unsolvable(n, d)) {
            for (int v = 0; v < n; v++) {
                S.due("choices(" + v + ")", x.choices(v), 0);
            }
        }
    }

    private static void choicesVariable(int n, int d) {
        WcspSolver x = new WcspSolver(n, d);
        for (int v : Sentences.outside(0, n - 1)) {
            S.due("choices(" + v + ")", x.choices(v), -1);
        }
        S.due("choices(0)", x.choices(0), d);
        S.due("choices(n - 1)", x.choices(n - 1), d);
    }
}
