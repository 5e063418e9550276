/** The boundary cases of the document's 'What it is' and 'Terms', one test for each sentence. */
public final class TermsTest {
    private static final int F = WcspSolver.FORBIDDEN;
    private static final Sentences S = new Sentences();

    public static void main(String[] args) {
        S.sentence("What it is", "at most 512 calls after it has been made", TermsTest::lastOf512Calls);
        S.sentence("Terms", "All costs are 0 .. 40, or FORBIDDEN (99)", TermsTest::allCosts);
        S.sentence("Terms", "all are 0 at first", TermsTest::zeroAtFirst);
        S.sentence("Terms", "it is all values at first", TermsTest::allAllowedAtFirst);
        S.sentence("Terms", "and never empty", TermsTest::neverEmpty);
        S.sentence("Terms", "A SOLUTION gives every variable an allowed value", TermsTest::onlyAllowedValues);
        S.sentence("Terms", "none of .. the unary cost of every variable's value .. is FORBIDDEN",
                TermsTest::noForbiddenUnary);
        S.sentence("Terms", "none of .. the binary cost of every two variables' values .. is FORBIDDEN",
                TermsTest::noForbiddenBinary);
        S.sentence("Terms", "Its COST is the sum of all those costs", TermsTest::everyCostCounts);
        S.sentence("Terms", "Its COST is the sum of all those costs (the greatest)", TermsTest::greatestSum);
        S.sentence("Terms", "Its COST is the sum of all those costs (a sum of 99)", TermsTest::sumOf99);
        S.sentence("Terms", "Its NUMBER is value(0) * d^(n-1) + ..", TermsTest::numbers);
        S.sentence("Terms", "the FIRST best solution is the one among them with the least number",
                TermsTest::leastNumber);
        S.sentence("Terms", "No question changes anything", TermsTest::questionsChangeNothing);
        S.sentence("Terms", "No question changes anything (without a solution)",
                TermsTest::questionsWithoutSolution);
        S.sentence("Terms", "A refused call changes nothing (unary)", TermsTest::refusedUnary);
        S.sentence("Terms", "A refused call changes nothing (binary)", TermsTest::refusedBinary);
        S.sentence("Terms", "A refused call changes nothing (relate)", TermsTest::refusedRelate);
        S.sentence("Terms", "A refused call changes nothing (allow)", TermsTest::refusedAllow);
        S.sentence("Terms", "A refused call changes nothing (questions)", TermsTest::refusedQuestions);
        S.sentence("Terms", "the tests are made in the order named (unary)", TermsTest::orderOfUnary);
        S.sentence("Terms", "the tests are made in the order named (binary)", TermsTest::orderOfBinary);
        S.sentence("Terms", "the tests are made in the order named (relate)", TermsTest::orderOfRelate);
        S.sentence("Terms", "the tests are made in the order named (allow)", TermsTest::orderOfAllow);
        S.sentence("Terms", "the tests are made in the order named (bestValue)", TermsTest::orderOfBestValue);
        S.sentence("Terms", "the tests are made in the order named (bestWith)", TermsTest::orderOfBestWith);
        S.sentence("Terms", "the tests are made in the order named (bestWithPair)",
                TermsTest::orderOfBestWithPair);
        S.sentence("Terms", "the tests are made in the order named (costOf)", TermsTest::orderOfCostOf);
        S.sentence("Terms", "the tests are made in the order named (choices)", TermsTest::orderOfChoices);
        S.sentence("Terms", "a variable's number is good if it is 0 .. n-1", TermsTest::goodVariables);
        S.sentence("Terms", "a value if it is 0 .. d-1", TermsTest::goodValues);
        S.end();
    }

    private static void lastOf512Calls(int n, int d) {
        WcspSolver x = new WcspSolver(n, d);
        for (int call = 1; call <= 510; call++) {
            S.due("call " + call, x.unary(0, 0, call % 41), (call - 1) % 41);
        }
        S.due("call 511, unary", x.unary(0, 0, F), 510 % 41);
        S.due("call 512, countUpTo(0)", x.countUpTo(0), (d - 1) * Sentences.power(d, n - 1));
    }

    private static void allCosts(int n, int d) {
        S.due("FORBIDDEN", F, 99);
        for (int cost = 0; cost <= 99; cost = cost == 40 ? 99 : cost + 1) {
            WcspSolver x = new WcspSolver(n, d);
            x.unary(n - 1, d - 1, cost);
            x.binary(1, d * d - 1, cost);
            S.due("unaryCost after cost " + cost, x.unaryCost(n - 1, d - 1), cost);
            S.due("binaryCost after cost " + cost, x.binaryCost(1, d * d - 1), cost);
        }
    }

    private static void zeroAtFirst(int n, int d) {
        WcspSolver x = new WcspSolver(n, d);
        for (int v = 0; v < n; v++) {
            for (int a = 0; a < d; a++) {
                S.due("unaryCost(" + v + ", " + a + ")", x.unaryCost(v, a), 0);
            }
        }
        for (int pair : Sentences.goodPairs(n)) {
            for (int values = 0; values < d * d; values++) {
                S.due("binaryCost(" + pair + ", " + values + ")", x.binaryCost(pair, values), 0);
            }
        }
    }

    private static void allAllowedAtFirst(int n, int d) {
        WcspSolver x = new WcspSolver(n, d);
        S.due("countUpTo(0)", x.countUpTo(0), Sentences.power(d, n));
        for (int v = 0; v < n; v++) {
            S.due("allow(" + v + ", 1)", x.allow(v, 1), (1 << d) - 1);
        }
    }

    private static void neverEmpty(int n, int d) {
        WcspSolver x = new WcspSolver(n, d);
        for (int v = 0; v < n; v++) {
            S.due("allow(" + v + ", 0)", x.allow(v, 0), -2);
            S.due("allow(" + v + ", 1)", x.allow(v, 1), (1 << d) - 1);
            S.due("allow(" + v + ", 0) again", x.allow(v, 0), -2);
            S.due("allow(" + v + ", 1) again", x.allow(v, 1), 1);
        }
        S.due("best()", x.best(), 0);
        S.due("bestCount()", x.bestCount(), 1);
    }

    private static void onlyAllowedValues(int n, int d) {
        for (int v = 0; v < n; v++) {
            for (int set = 1; set < 1 << d; set++) {
                WcspSolver x = new WcspSolver(n, d);
                x.allow(v, set);
                String name = "allow(" + v + ", " + set + "), then ";
                S.due(name + "countUpTo(0)", x.countUpTo(0), Integer.bitCount(set) * Sentences.power(d, n - 1));
                for (int a = 0; a < d; a++) {
                    int want = (set >> a & 1) == 1 ? 0 : -3;
                    S.due(name + "bestWith(" + v + ", " + a + ")", x.bestWith(v, a), want);
                }
            }
        }
    }

    private static void noForbiddenUnary(int n, int d) {
        for (int v = 0; v < n; v++) {
            for (int a = 0; a < d; a++) {
                WcspSolver x = new WcspSolver(n, d);
                x.unary(v, a, F);
                String name = "unary(" + v + ", " + a + ", 99), then ";
                S.due(name + "countUpTo(5000)", x.countUpTo(5000), (d - 1) * Sentences.power(d, n - 1));
                S.due(name + "bestWith", x.bestWith(v, a), -3);
                x.unary(v, a, 40);
                S.due(name + "40 and countUpTo(40)", x.countUpTo(40), Sentences.power(d, n));
                S.due(name + "40 and bestWith", x.bestWith(v, a), 40);
            }
        }
    }

    private static void noForbiddenBinary(int n, int d) {
        for (int pair : Sentences.goodPairs(n)) {
            for (int values = 0; values < d * d; values++) {
                WcspSolver x = new WcspSolver(n, d);
                x.binary(pair, values, F);
                String name = "binary(" + pair + ", " + values + ", 99), then ";
                S.due(name + "countUpTo(5000)", x.countUpTo(5000), (d * d - 1) * Sentences.power(d, n - 2));
                S.due(name + "bestWithPair", x.bestWithPair(pair, values), -3);
                x.binary(pair, values, 40);
                S.due(name + "40 and countUpTo(40)", x.countUpTo(40), Sentences.power(d, n));
                S.due(name + "40 and bestWithPair", x.bestWithPair(pair, values), 40);
            }
        }
    }

    /** A lone cost is the cost of just those assignments that it belongs to. */
    private static void everyCostCounts(int n, int d) {
        for (int v = 0; v < n; v++) {
            for (int a = 0; a < d; a++) {
                WcspSolver x = new WcspSolver(n, d);
                x.unary(v, a, 7);
                S.due("countUpTo(6)", x.countUpTo(6), (d - 1) * Sentences.power(d, n - 1));
                S.due("countUpTo(7)", x.countUpTo(7), Sentences.power(d, n));
                S.due("bestWith(" + v + ", " + a + ")", x.bestWith(v, a), 7);
            }
        }
        for (int pair : Sentences.goodPairs(n)) {
            for (int values = 0; values < d * d; values++) {
                WcspSolver x = new WcspSolver(n, d);
                x.binary(pair, values, 7);
                S.due("countUpTo(6)", x.countUpTo(6), (d * d - 1) * Sentences.power(d, n - 2));
                S.due("countUpTo(7)", x.countUpTo(7), Sentences.power(d, n));
                S.due("bestWithPair(" + pair + ", " + values + ")", x.bestWithPair(pair, values), 7);
            }
        }
    }

    private static void greatestSum(int n, int d) {
        WcspSolver x = new WcspSolver(n, d);
        int last = Sentences.power(d, n) - 1;
        for (int v = 0; v < n; v++) {
            x.unary(v, d - 1, 40);
            x.allow(v, 1 << (d - 1));
            for (int u = 0; u < v; u++) {
                x.binary(n * u + v, d * d - 1, 40);
            }
        }
        int sum = 40 * n + 40 * (n * (n - 1) / 2);
        S.due("best()", x.best(), sum);
        S.due("costOf(" + last + ")", x.costOf(last), sum);
        S.due("nextCost(" + (sum - 1) + ")", x.nextCost(sum - 1), sum);
        S.due("countUpTo(" + sum + ")", x.countUpTo(sum), 1);
        S.due("countUpTo(" + (sum - 1) + ")", x.countUpTo(sum - 1), 0);
    }

    /** 99 as a sum is a cost like any other; only a single cost of 99 forbids. */
    private static void sumOf99(int n, int d) {
        WcspSolver x = new WcspSolver(n, d);
        int last = Sentences.power(d, n) - 1;
        for (int v = 0; v < n; v++) {
            x.allow(v, 1 << (d - 1));
        }
        x.unary(0, d - 1, 40);
        x.unary(n - 1, d - 1, 40);
        x.binary(n - 1, d * d - 1, 19);
        S.due("best()", x.best(), 99);
        S.due("bestCount()", x.bestCount(), 1);
        S.due("bestWith", x.bestWith(0, d - 1), 99);
        S.due("costOf", x.costOf(last), 99);
        S.due("countUpTo(99)", x.countUpTo(99), 1);
        S.due("nextCost(98)", x.nextCost(98), 99);
        x.binary(n - 1, d * d - 1, 20);
        S.due("best() of 100", x.best(), 100);
    }

    private static void numbers(int n, int d) {
        int count = Sentences.power(d, n);
        for (int number = 0; number < count; number++) {
            WcspSolver x = new WcspSolver(n, d);
            for (int v = 0; v < n; v++) {
                x.allow(v, 1 << Sentences.digit(n, d, number, v));
            }
            S.due("costOf(" + number + ")", x.costOf(number), 0);
            S.due("costOf of the number before", x.costOf(number - 1), number == 0 ? -1 : -2);
            S.due("costOf of the number after", x.costOf(number + 1), number == count - 1 ? -1 : -2);
            for (int v = 0; v < n; v++) {
                S.due("bestValue(" + v + ") in " + number, x.bestValue(v), Sentences.digit(n, d, number, v));
            }
        }
    }

    /** Of two best solutions one has the lower first digit and the higher other digits. */
    private static void leastNumber(int n, int d) {
        for (int first = 0; first < n - 1; first++) {
            for (int second = first + 1; second < n; second++) {
                WcspSolver x = new WcspSolver(n, d);
                x.relate(n * first + second, 1, 1);
                for (int v = 0; v < n; v++) {
                    x.allow(v, v == first || v == second ? 3 : 1);
                }
                String name = "relate of " + first + " and " + second + ", then ";
                S.due(name + "bestCount()", x.bestCount(), 2);
                for (int v = 0; v < n; v++) {
                    S.due(name + "bestValue(" + v + ")", x.bestValue(v), v == second ? 1 : 0);
                }
            }
        }
    }

    private static void askEverything(WcspSolver x, int n, int d) {
        x.best();
        x.bestCount();
        x.bestValue(n - 1);
        x.bestWith(n - 1, d - 1);
        x.bestWithPair(1, 1);
        x.bestWithPair(n, d * d - 1);
        x.countUpTo(60);
        x.countUpTo(Integer.MAX_VALUE);
        x.nextCost(-1);
        x.nextCost(60);
        x.costOf(0);
        x.costOf(Sentences.power(d, n) - 1);
        x.choices(0);
        x.unaryCost(0, 0);
        x.binaryCost(1, 1);
        x.binaryCost(n, 1);
    }

    private static void questionsChangeNothing(int n, int d) {
        WcspSolver x = Sentences.filled(n, d);
        askEverything(x, n, d);
        askEverything(x, n, d);
        S.same("questions", x, Sentences.filled(n, d), n, d);
    }

    private static void questionsWithoutSolution(int n, int d) {
        WcspSolver[] asked = Sentences.unsolvable(n, d);
        WcspSolver[] others = Sentences.unsolvable(n, d);
        for (int i = 0; i < asked.length; i++) {
            askEverything(asked[i], n, d);
            S.same("questions", asked[i], others[i], n, d);
        }
    }

    private static void refusedUnary(int n, int d) {
        WcspSolver x = Sentences.filled(n, d);
        for (int v : Sentences.outside(0, n - 1)) {
            S.due("unary(" + v + ", 0, 40)", x.unary(v, 0, 40), -1);
        }
        for (int a : Sentences.outside(0, d - 1)) {
            S.due("unary(0, " + a + ", 40)", x.unary(0, a, 40), -2);
        }
        for (int cost : Sentences.noCosts()) {
            S.due("unary(0, 0, " + cost + ")", x.unary(0, 0, cost), -3);
        }
        S.same("refused unary", x, Sentences.filled(n, d), n, d);
    }

    private static void refusedBinary(int n, int d) {
        WcspSolver x = Sentences.filled(n, d);
        for (int pair : Sentences.outside(0, n * n - 1)) {
            S.due("binary(" + pair + ", 0, 40)", x.binary(pair, 0, 40), -1);
        }
        for (int pair : Sentences.samePairs(n)) {
            S.due("binary(" + pair + ", 0, 40)", x.binary(pair, 0, 40), -1);
        }
        for (int values : Sentences.outside(0, d * d - 1)) {
            S.due("binary(1, " + values + ", 40)", x.binary(1, values, 40), -2);
        }
        for (int cost : Sentences.noCosts()) {
            S.due("binary(1, 0, " + cost + ")", x.binary(1, 0, cost), -3);
            S.due("binary(n, 0, " + cost + ")", x.binary(n, 0, cost), -3);
        }
        S.same("refused binary", x, Sentences.filled(n, d), n, d);
    }

    private static void refusedRelate(int n, int d) {
        WcspSolver x = Sentences.filled(n, d);
        for (int pair : Sentences.outside(0, n * n - 1)) {
            S.due("relate(" + pair + ", 0, 10)", x.relate(pair, 0, 10), -1);
        }
        for (int pair : Sentences.samePairs(n)) {
            S.due("relate(" + pair + ", 0, 10)", x.relate(pair, 0, 10), -1);
        }
        for (int kind : Sentences.outside(0, 2)) {
            S.due("relate(1, " + kind + ", 10)", x.relate(1, kind, 10), -2);
        }
        for (int weight : Sentences.outside(0, 10)) {
            S.due("relate(1, 0, " + weight + ")", x.relate(1, 0, weight), -3);
        }
        S.same("refused relate", x, Sentences.filled(n, d), n, d);
    }

    private static void refusedAllow(int n, int d) {
        WcspSolver x = Sentences.filled(n, d);
        for (int v : Sentences.outside(0, n - 1)) {
            S.due("allow(" + v + ", 2)", x.allow(v, 2), -1);
        }
        for (int set : Sentences.outside(1, (1 << d) - 1)) {
            S.due("allow(0, " + set + ")", x.allow(0, set), -2);
            S.due("allow(n - 1, " + set + ")", x.allow(n - 1, set), -2);
        }
        S.same("refused allow", x, Sentences.filled(n, d), n, d);
    }

    private static void refusedQuestions(int n, int d) {
        WcspSolver x = Sentences.filled(n, d);
        for (int far : new int[] {-1, Integer.MIN_VALUE, 729, Integer.MAX_VALUE}) {
            S.due("unaryCost(" + far + ", 0)", x.unaryCost(far, 0), -1);
            S.due("unaryCost(0, " + far + ")", x.unaryCost(0, far), -1);
            S.due("binaryCost(" + far + ", 0)", x.binaryCost(far, 0), -1);
            S.due("binaryCost(1, " + far + ")", x.binaryCost(1, far), -1);
            S.due("bestValue(" + far + ")", x.bestValue(far), -1);
            S.due("bestWith(" + far + ", 0)", x.bestWith(far, 0), -1);
            S.due("bestWith(0, " + far + ")", x.bestWith(0, far), -2);
            S.due("bestWithPair(" + far + ", 0)", x.bestWithPair(far, 0), -1);
            S.due("bestWithPair(1, " + far + ")", x.bestWithPair(1, far), -2);
            S.due("costOf(" + far + ")", x.costOf(far), -1);
            S.due("choices(" + far + ")", x.choices(far), -1);
        }
        S.same("refused questions", x, Sentences.filled(n, d), n, d);
    }

    private static boolean inside(int low, int number, int high) {
        return low <= number && number <= high;
    }

    private static void orderOfUnary(int n, int d) {
        for (int v : new int[] {-1, 0, n}) {
            for (int a : new int[] {-1, 0, d}) {
                for (int cost : new int[] {-1, 41, 98, 100}) {
                    int want = !inside(0, v, n - 1) ? -1 : !inside(0, a, d - 1) ? -2 : -3;
                    WcspSolver x = new WcspSolver(n, d);
                    S.due("unary(" + v + ", " + a + ", " + cost + ")", x.unary(v, a, cost), want);
                }
            }
        }
        S.due("unary(n, d, 0)", new WcspSolver(n, d).unary(n, d, 0), -1);
    }

    private static void orderOfBinary(int n, int d) {
        for (int pair : new int[] {-1, 0, 1, n, n * n - 1, n * n, n * n + 1}) {
            boolean good = inside(0, pair, n * n - 1) && pair / n != pair % n;
            for (int values : new int[] {-1, 0, d * d}) {
                for (int cost : new int[] {-1, 41, 98, 100}) {
                    int want = !good ? -1 : !inside(0, values, d * d - 1) ? -2 : -3;
                    WcspSolver x = new WcspSolver(n, d);
                    S.due("binary(" + pair + ", " + values + ", " + cost + ")", x.binary(pair, values, cost), want);
                }
            }
            S.due("binary(" + pair + ", d*d, 0)", new WcspSolver(n, d).binary(pair, d * d, 0), good ? -2 : -1);
        }
    }

    private static void orderOfRelate(int n, int d) {
        for (int pair : new int[] {-1, 0, 1, n, n * n - 1, n * n, n * n + 1}) {
            boolean good = inside(0, pair, n * n - 1) && pair / n != pair % n;
            for (int kind : new int[] {-1, 0, 2, 3}) {
                for (int weight : new int[] {-1, 11}) {
                    int want = !good ? -1 : !inside(0, kind, 2) ? -2 : -3;
                    WcspSolver x = new WcspSolver(n, d);
                    S.due("relate(" + pair + ", " + kind + ", " + weight + ")", x.relate(pair, kind, weight), want);
                }
            }
            S.due("relate(" + pair + ", 3, 0)", new WcspSolver(n, d).relate(pair, 3, 0), good ? -2 : -1);
        }
    }

    private static void orderOfAllow(int n, int d) {
        for (int set : new int[] {-1, 0, 1 << d}) {
            S.due("allow(-1, " + set + ")", new WcspSolver(n, d).allow(-1, set), -1);
            S.due("allow(n, " + set + ")", new WcspSolver(n, d).allow(n, set), -1);
            S.due("allow(n - 1, " + set + ")", new WcspSolver(n, d).allow(n - 1, set), -2);
        }
    }

    private static void orderOfBestValue(int n, int d) {
        for (WcspSolver x : Sentences.unsolvable(n, d)) {
            S.due("bestValue(-1) without a solution", x.bestValue(-1), -1);
            S.due("bestValue(n) without a solution", x.bestValue(n), -1);
            S.due("bestValue(n - 1) without a solution", x.bestValue(n - 1), -2);
        }
    }

    private static void orderOfBestWith(int n, int d) {
        for (WcspSolver x : Sentences.unsolvable(n, d)) {
            for (int a : new int[] {-1, 0, d}) {
                S.due("bestWith(-1, " + a + ") without a solution", x.bestWith(-1, a), -1);
                S.due("bestWith(n, " + a + ") without a solution", x.bestWith(n, a), -1);
            }
            S.due("bestWith(0, -1) without a solution", x.bestWith(0, -1), -2);
            S.due("bestWith(0, d) without a solution", x.bestWith(0, d), -2);
            S.due("bestWith(0, 0) without a solution", x.bestWith(0, 0), -3);
        }
        S.due("bestWith(n, d)", new WcspSolver(n, d).bestWith(n, d), -1);
    }

    private static void orderOfBestWithPair(int n, int d) {
        for (WcspSolver x : Sentences.unsolvable(n, d)) {
            for (int pair : new int[] {-1, 0, n * n - 1, n * n, n * n + 1}) {
                for (int values : new int[] {-1, 0, d * d}) {
                    String name = "bestWithPair(" + pair + ", " + values + ") without a solution";
                    S.due(name, x.bestWithPair(pair, values), -1);
                }
            }
            S.due("bestWithPair(1, -1) without a solution", x.bestWithPair(1, -1), -2);
            S.due("bestWithPair(1, d*d) without a solution", x.bestWithPair(1, d * d), -2);
            S.due("bestWithPair(1, 0) without a solution", x.bestWithPair(1, 0), -3);
        }
        S.due("bestWithPair(0, d*d)", new WcspSolver(n, d).bestWithPair(0, d * d), -1);
    }

    private static void orderOfCostOf(int n, int d) {
        int count = Sentences.power(d, n);
        for (WcspSolver x : Sentences.unsolvable(n, d)) {
            S.due("costOf(-1) without a solution", x.costOf(-1), -1);
            S.due("costOf(d^n) without a solution", x.costOf(count), -1);
            S.due("costOf(d^n - 1) without a solution", x.costOf(count - 1), -2);
        }
    }

    private static void orderOfChoices(int n, int d) {
        for (WcspSolver x : Sentences.unsolvable(n, d)) {
            S.due("choices(-1) without a solution", x.choices(-1), -1);
            S.due("choices(n) without a solution", x.choices(n), -1);
            S.due("choices(n - 1) without a solution", x.choices(n - 1), 0);
        }
    }

    private static void goodVariables(int n, int d) {
        WcspSolver x = new WcspSolver(n, d);
        for (int v = -1; v <= n; v++) {
            boolean good = v != -1 && v != n;
            S.due("unary(" + v + ", 0, 0)", x.unary(v, 0, 0), good ? 0 : -1);
            S.due("unaryCost(" + v + ", 0)", x.unaryCost(v, 0), good ? 0 : -1);
            S.due("allow(" + v + ", 3)", x.allow(v, 3), good ? (1 << d) - 1 : -1);
            S.due("bestValue(" + v + ")", x.bestValue(v), good ? 0 : -1);
            S.due("bestWith(" + v + ", 0)", x.bestWith(v, 0), good ? 0 : -1);
            S.due("choices(" + v + ")", x.choices(v), good ? 2 : -1);
        }
    }

    private static void goodValues(int n, int d) {
        WcspSolver x = new WcspSolver(n, d);
        for (int a = -1; a <= d; a++) {
            boolean good = a != -1 && a != d;
            S.due("unary(0, " + a + ", 0)", x.unary(0, a, 0), good ? 0 : -2);
            S.due("unaryCost(0, " + a + ")", x.unaryCost(0, a), good ? 0 : -1);
            S.due("bestWith(0, " + a + ")", x.bestWith(0, a), good ? 0 : -2);
        }
    }
}
