/** The boundary cases of promises 1 to 7 (the new object, its costs and sets), one test for each sentence. */
public final class ChangesTest {
    private static final int F = WcspSolver.FORBIDDEN;
    private static final Sentences S = new Sentences();

    public static void main(String[] args) {
        S.sentence("Promise 1", "vars is n", ChangesTest::varsIsN);
        S.sentence("Promise 1", "vars .. below 2 becomes 2", ChangesTest::varsBelow2);
        S.sentence("Promise 1", "vars .. above 6 becomes 6", ChangesTest::varsAbove6);
        S.sentence("Promise 1", "values .. below 2 becomes 2", ChangesTest::valuesBelow2);
        S.sentence("Promise 1", "values .. above 3 becomes 3", ChangesTest::valuesAbove3);
        S.sentence("Promise 2", "Sets the unary cost of value a of variable v", ChangesTest::unarySetsOne);
        S.sentence("Promise 2", "-1 if v is not good", ChangesTest::unaryVariable);
        S.sentence("Promise 2", "-2 if a is not good", ChangesTest::unaryValue);
        S.sentence("Promise 2", "-3 if cost is neither in 0 .. 40 nor 99", ChangesTest::unaryBadCost);
        S.sentence("Promise 2", "otherwise answers the cost before", ChangesTest::unaryBefore);
        S.sentence("Promise 3", "Sets the binary cost of two variables' values", ChangesTest::binarySetsOne);
        S.sentence("Promise 3", "u and v may stand in either order", ChangesTest::binaryEitherOrder);
        S.sentence("Promise 3", "-1 if pair is not in 0 .. n*n - 1", ChangesTest::binaryPair);
        S.sentence("Promise 3", "-1 if .. u and v are the same", ChangesTest::binarySame);
        S.sentence("Promise 3", "-2 if values is not in 0 .. d*d - 1", ChangesTest::binaryValues);
        S.sentence("Promise 3", "-3 if cost is neither in 0 .. 40 nor 99", ChangesTest::binaryBadCost);
        S.sentence("Promise 3", "otherwise answers the cost before", ChangesTest::binaryBefore);
        S.sentence("Promise 4", "the size of a - b (kind 0)", ChangesTest::relateKind0);
        S.sentence("Promise 4", "1 if a and b are the same and else 0 (kind 1)", ChangesTest::relateKind1);
        S.sentence("Promise 4", "a * b (kind 2)", ChangesTest::relateKind2);
        S.sentence("Promise 4", "becomes weight * t (whatever it was)", ChangesTest::relateReplaces);
        S.sentence("Promise 4", "Sets many binary costs of u and v (and no other)", ChangesTest::relateSetsOnePair);
        S.sentence("Promise 4", "-1 if pair is not in 0 .. n*n - 1", ChangesTest::relatePair);
        S.sentence("Promise 4", "-1 if .. u and v (as in binary) are the same", ChangesTest::relateSame);
        S.sentence("Promise 4", "-2 if kind is not in 0 .. 2", ChangesTest::relateKinds);
        S.sentence("Promise 4", "-3 if weight is not in 0 .. 10; otherwise 0", ChangesTest::relateWeights);
        S.sentence("Promise 5", "The unary cost", ChangesTest::unaryCostTells);
        S.sentence("Promise 5", "-1 if v .. is not good", ChangesTest::unaryCostVariable);
        S.sentence("Promise 5", "-1 if .. a is not good", ChangesTest::unaryCostValue);
        S.sentence("Promise 6", "The binary cost, given as in binary", ChangesTest::binaryCostTells);
        S.sentence("Promise 6", "-1 if pair .. is refused there", ChangesTest::binaryCostPair);
        S.sentence("Promise 6", "-1 if .. values is refused there", ChangesTest::binaryCostValues);
        S.sentence("Promise 7", "Sets the allowed values of a variable", ChangesTest::allowSetsOne);
        S.sentence("Promise 7", "-1 if v is not good", ChangesTest::allowVariable);
        S.sentence("Promise 7", "-2 if set is not in 1 .. 2^d - 1", ChangesTest::allowBadSet);
        S.sentence("Promise 7", "otherwise answers the set before", ChangesTest::allowBefore);
        S.end();
    }

    /** Every number that tells n or d apart from its neighbours. */
    private static void hasSize(String name, WcspSolver x, int n, int d) {
        int count = Sentences.power(d, n);
        S.due(name + " countUpTo(0)", x.countUpTo(0), count);
        S.due(name + " costOf(d^n - 1)", x.costOf(count - 1), 0);
        S.due(name + " costOf(d^n)", x.costOf(count), -1);
        S.due(name + " unaryCost(n - 1, d - 1)", x.unaryCost(n - 1, d - 1), 0);
        S.due(name + " unaryCost(n, 0)", x.unaryCost(n, 0), -1);
        S.due(name + " unaryCost(0, d)", x.unaryCost(0, d), -1);
        S.due(name + " binaryCost(n*n - 2, d*d - 1)", x.binaryCost(n * n - 2, d * d - 1), 0);
        S.due(name + " binaryCost(n*n + 1, 0)", x.binaryCost(n * n + 1, 0), -1);
        S.due(name + " binaryCost(1, d*d)", x.binaryCost(1, d * d), -1);
        S.due(name + " allow(n - 1, 1)", x.allow(n - 1, 1), (1 << d) - 1);
        S.due(name + " allow(n, 1)", x.allow(n, 1), -1);
    }

    private static void varsIsN(int n, int d) {
        hasSize("new", new WcspSolver(n, d), n, d);
    }

    private static void varsBelow2(int n, int d) {
        for (int vars : new int[] {1, 0, -1, -2, -6, 3 - 256, 3 - 65536, Integer.MIN_VALUE + 3, Integer.MIN_VALUE}) {
            hasSize("vars " + vars, new WcspSolver(vars, d), 2, d);
        }
    }

    private static void varsAbove6(int n, int d) {
        for (int vars : new int[] {7, 8, 100, 3 + 256, 3 + 65536, 1 << 30, Integer.MAX_VALUE}) {
            hasSize("vars " + vars, new WcspSolver(vars, d), 6, d);
        }
    }

    private static void valuesBelow2(int n, int d) {
        for (int values : new int[] {1, 0, -1, -3, 3 - 256, 3 - 65536, Integer.MIN_VALUE + 3, Integer.MIN_VALUE}) {
            hasSize("values " + values, new WcspSolver(n, values), n, 2);
        }
    }

    private static void valuesAbove3(int n, int d) {
        for (int values : new int[] {4, 5, 32, 2 + 256, 2 + 65536, 1 << 30, Integer.MAX_VALUE}) {
            hasSize("values " + values, new WcspSolver(n, values), n, 3);
        }
    }

    private static void unarySetsOne(int n, int d) {
        for (int v = 0; v < n; v++) {
            for (int a = 0; a < d; a++) {
                WcspSolver x = new WcspSolver(n, d);
                x.unary(v, a, 33);
                for (int cell = 0; cell < n * d; cell++) {
                    int want = cell == d * v + a ? 33 : 0;
                    S.due("unary(" + v + ", " + a + ", 33), cell " + cell, x.unaryCost(cell / d, cell % d), want);
                }
            }
        }
    }

    private static void unaryVariable(int n, int d) {
        WcspSolver x = new WcspSolver(n, d);
        for (int v : Sentences.outside(0, n - 1)) {
            S.due("unary(" + v + ", 0, 1)", x.unary(v, 0, 1), -1);
            S.due("unary(" + v + ", d - 1, 99)", x.unary(v, d - 1, F), -1);
        }
        for (int v = 0; v < n; v++) {
            S.due("unary(" + v + ", 0, 1)", x.unary(v, 0, 1), 0);
        }
    }

    private static void unaryValue(int n, int d) {
        WcspSolver x = new WcspSolver(n, d);
        for (int a : Sentences.outside(0, d - 1)) {
            S.due("unary(0, " + a + ", 1)", x.unary(0, a, 1), -2);
            S.due("unary(n - 1, " + a + ", 99)", x.unary(n - 1, a, F), -2);
        }
        for (int a = 0; a < d; a++) {
            S.due("unary(n - 1, " + a + ", 1)", x.unary(n - 1, a, 1), 0);
        }
    }

    private static void unaryBadCost(int n, int d) {
        WcspSolver x = new WcspSolver(n, d);
        for (int cost = -130; cost <= 300; cost++) {
            boolean good = (cost >= 0 && cost <= 40) || cost == 99;
            if (!good) {
                S.due("unary(0, 0, " + cost + ")", x.unary(0, 0, cost), -3);
            }
        }
        for (int cost : Sentences.noCosts()) {
            S.due("unary(n - 1, d - 1, " + cost + ")", x.unary(n - 1, d - 1, cost), -3);
        }
        for (int cost : new int[] {0, 1, 39, 40, 99}) {
            S.due("unary(1, 1, " + cost + ")", new WcspSolver(n, d).unary(1, 1, cost), 0);
        }
    }

    private static void unaryBefore(int n, int d) {
        WcspSolver x = new WcspSolver(n, d);
        int[] costs = {0, 40, 99, 99, 0, 1, 1, 40, 0};
        for (int v = 0; v < n; v++) {
            int before = 0;
            for (int cost : costs) {
                S.due("unary(" + v + ", d - 1, " + cost + ")", x.unary(v, d - 1, cost), before);
                before = cost;
            }
        }
    }

    private static void binarySetsOne(int n, int d) {
        for (int pair : Sentences.goodPairs(n)) {
            for (int values = 0; values < d * d; values++) {
                WcspSolver x = new WcspSolver(n, d);
                x.binary(pair, values, 33);
                onlyThisBinary("binary(" + pair + ", " + values + ", 33)", x, n, d, pair, values);
            }
        }
    }

    private static void onlyThisBinary(String name, WcspSolver x, int n, int d, int pair, int values) {
        for (int other : Sentences.goodPairs(n)) {
            for (int two = 0; two < d * d; two++) {
                boolean it = other == pair && two == values;
                boolean turned = other == Sentences.turnedPair(n, pair) && two == Sentences.turnedValues(d, values);
                String call = name + ", then binaryCost(" + other + ", " + two + ")";
                S.due(call, x.binaryCost(other, two), it || turned ? 33 : 0);
            }
        }
    }

    private static void binaryEitherOrder(int n, int d) {
        for (int pair : Sentences.goodPairs(n)) {
            WcspSolver x = new WcspSolver(n, d);
            int turned = Sentences.turnedPair(n, pair);
            for (int values = 0; values < d * d; values++) {
                int back = Sentences.turnedValues(d, values);
                S.due("binary(" + pair + ", " + values + ")", x.binary(pair, values, values + 1), 0);
                S.due("binary(" + turned + ", " + back + ")", x.binary(turned, back, values + 21), values + 1);
            }
            for (int values = 0; values < d * d; values++) {
                int back = Sentences.turnedValues(d, values);
                S.due("binaryCost(" + pair + ", " + values + ")", x.binaryCost(pair, values), values + 21);
                S.due("binaryCost(" + turned + ", " + back + ")", x.binaryCost(turned, back), values + 21);
            }
        }
    }

    private static void binaryPair(int n, int d) {
        WcspSolver x = new WcspSolver(n, d);
        for (int pair : Sentences.outside(0, n * n - 1)) {
            S.due("binary(" + pair + ", 1, 1)", x.binary(pair, 1, 1), -1);
        }
        S.due("binary(1, 1, 1), the least pair", x.binary(1, 1, 1), 0);
        S.due("binary(n*n - 2, 0, 1), the greatest pair", x.binary(n * n - 2, 0, 1), 0);
    }

    private static void binarySame(int n, int d) {
        WcspSolver x = new WcspSolver(n, d);
        for (int pair : Sentences.samePairs(n)) {
            for (int values = 0; values < d * d; values++) {
                S.due("binary(" + pair + ", " + values + ", 1)", x.binary(pair, values, 1), -1);
            }
        }
        for (int pair : Sentences.goodPairs(n)) {
            S.due("binary(" + pair + ", 0, 0)", x.binary(pair, 0, 0), 0);
        }
    }

    private static void binaryValues(int n, int d) {
        WcspSolver x = new WcspSolver(n, d);
        for (int values : Sentences.outside(0, d * d - 1)) {
            S.due("binary(1, " + values + ", 1)", x.binary(1, values, 1), -2);
            S.due("binary(n, " + values + ", 1)", x.binary(n, values, 1), -2);
            S.due("binary(n*n - 2, " + values + ", 99)", x.binary(n * n - 2, values, F), -2);
        }
        for (int values = 0; values < d * d; values++) {
            S.due("binary(1, " + values + ", 1)", x.binary(1, values, 1), 0);
        }
    }

    private static void binaryBadCost(int n, int d) {
        WcspSolver x = new WcspSolver(n, d);
        for (int cost = -130; cost <= 300; cost++) {
            boolean good = (cost >= 0 && cost <= 40) || cost == 99;
            if (!good) {
                S.due("binary(1, 0, " + cost + ")", x.binary(1, 0, cost), -3);
            }
        }
        for (int cost : Sentences.noCosts()) {
            S.due("binary(n*n - 2, d*d - 1, " + cost + ")", x.binary(n * n - 2, d * d - 1, cost), -3);
        }
        for (int cost : new int[] {0, 1, 39, 40, 99}) {
            S.due("binary(n, 1, " + cost + ")", new WcspSolver(n, d).binary(n, 1, cost), 0);
        }
    }

    private static void binaryBefore(int n, int d) {
        WcspSolver x = new WcspSolver(n, d);
        int[] costs = {0, 40, 99, 99, 0, 1, 1, 40, 0};
        for (int pair : Sentences.goodPairs(n)) {
            int before = 0;
            for (int cost : costs) {
                S.due("binary(" + pair + ", 1, " + cost + ")", x.binary(pair, 1, cost), before);
                before = cost;
            }
        }
        x.relate(1, 2, 10);
        S.due("binary after relate", x.binary(1, d * d - 1, 5), 10 * (d - 1) * (d - 1));
    }

    /** What relate has to write, by kind and values; written out so that it is not worked out as there. */
    private static int written(int kind, int a, int b) {
        int[][][] tables = {
            {{0, 1, 2}, {1, 0, 1}, {2, 1, 0}},
            {{1, 0, 0}, {0, 1, 0}, {0, 0, 1}},
            {{0, 0, 0}, {0, 1, 2}, {0, 2, 4}},
        };
        return tables[kind][a][b];
    }

    private static void relatesAs(int n, int d, int kind) {
        for (int pair : Sentences.goodPairs(n)) {
            WcspSolver x = new WcspSolver(n, d);
            for (int weight : new int[] {1, 3, 10}) {
                S.due("relate(" + pair + ", " + kind + ", " + weight + ")", x.relate(pair, kind, weight), 0);
                for (int values = 0; values < d * d; values++) {
                    int want = weight * written(kind, values / d, values % d);
                    String name = "relate with weight " + weight + ", then binaryCost(" + pair + ", " + values + ")";
                    S.due(name, x.binaryCost(pair, values), want);
                }
            }
        }
    }

    private static void relateKind0(int n, int d) {
        relatesAs(n, d, 0);
    }

    private static void relateKind1(int n, int d) {
        relatesAs(n, d, 1);
    }

    private static void relateKind2(int n, int d) {
        relatesAs(n, d, 2);
    }

    private static void relateReplaces(int n, int d) {
        for (int kind = 0; kind <= 2; kind++) {
            for (int weight : new int[] {0, 1, 10}) {
                WcspSolver x = new WcspSolver(n, d);
                for (int values = 0; values < d * d; values++) {
                    x.binary(1, values, values % 2 == 0 ? F : 40);
                }
                x.relate(n, kind, weight);
                for (int values = 0; values < d * d; values++) {
                    int want = weight * written(kind, values / d, values % d);
                    String name = "relate(n, " + kind + ", " + weight + "), then binaryCost(1, " + values + ")";
                    S.due(name, x.binaryCost(1, values), want);
                }
            }
        }
    }

    private static void relateSetsOnePair(int n, int d) {
        for (int pair : Sentences.goodPairs(n)) {
            WcspSolver x = new WcspSolver(n, d);
            x.relate(pair, 1, 4);
            for (int other : Sentences.goodPairs(n)) {
                boolean its = other == pair || other == Sentences.turnedPair(n, pair);
                String name = "relate(" + pair + ", 1, 4), then binaryCost(" + other;
                S.due(name + ", 0)", x.binaryCost(other, 0), its ? 4 : 0);
                S.due(name + ", d*d - 1)", x.binaryCost(other, d * d - 1), its ? 4 : 0);
            }
            for (int v = 0; v < n; v++) {
                S.due("relate(" + pair + ", 1, 4), then unaryCost(" + v + ", 0)", x.unaryCost(v, 0), 0);
            }
        }
    }

    private static void relatePair(int n, int d) {
        WcspSolver x = new WcspSolver(n, d);
        for (int pair : Sentences.outside(0, n * n - 1)) {
            S.due("relate(" + pair + ", 1, 1)", x.relate(pair, 1, 1), -1);
        }
        S.due("relate(1, 1, 1), the least pair", x.relate(1, 1, 1), 0);
        S.due("relate(n*n - 2, 1, 1), the greatest pair", x.relate(n * n - 2, 1, 1), 0);
    }

    private static void relateSame(int n, int d) {
        WcspSolver x = new WcspSolver(n, d);
        for (int pair : Sentences.samePairs(n)) {
            for (int kind = 0; kind <= 2; kind++) {
                S.due("relate(" + pair + ", " + kind + ", 1)", x.relate(pair, kind, 1), -1);
            }
        }
        for (int pair : Sentences.goodPairs(n)) {
            S.due("relate(" + pair + ", 0, 0)", x.relate(pair, 0, 0), 0);
        }
    }

    private static void relateKinds(int n, int d) {
        WcspSolver x = new WcspSolver(n, d);
        for (int kind : Sentences.outside(0, 2)) {
            S.due("relate(1, " + kind + ", 1)", x.relate(1, kind, 1), -2);
            S.due("relate(n*n - 2, " + kind + ", 0)", x.relate(n * n - 2, kind, 0), -2);
        }
        for (int kind = 0; kind <= 2; kind++) {
            S.due("relate(1, " + kind + ", 1)", x.relate(1, kind, 1), 0);
        }
    }

    private static void relateWeights(int n, int d) {
        WcspSolver x = new WcspSolver(n, d);
        for (int kind = 0; kind <= 2; kind++) {
            for (int weight : Sentences.outside(0, 10)) {
                S.due("relate(1, " + kind + ", " + weight + ")", x.relate(1, kind, weight), -3);
            }
            S.due("relate(1, " + kind + ", 20)", x.relate(1, kind, 20), -3);
            S.due("relate(1, " + kind + ", 40)", x.relate(1, kind, 40), -3);
            S.due("relate(1, " + kind + ", 99)", x.relate(1, kind, F), -3);
            for (int weight = 0; weight <= 10; weight++) {
                S.due("relate(1, " + kind + ", " + weight + ")", x.relate(1, kind, weight), 0);
            }
        }
    }

    private static void unaryCostTells(int n, int d) {
        WcspSolver x = new WcspSolver(n, d);
        for (int cell = 0; cell < n * d; cell++) {
            x.unary(cell / d, cell % d, cell == 0 ? F : 40 - cell);
            x.allow(cell / d, 1);
        }
        for (int cell = 0; cell < n * d; cell++) {
            int want = cell == 0 ? 99 : 40 - cell;
            S.due("unaryCost of cell " + cell, x.unaryCost(cell / d, cell % d), want);
        }
    }

    private static void unaryCostVariable(int n, int d) {
        WcspSolver x = new WcspSolver(n, d);
        for (int v : Sentences.outside(0, n - 1)) {
            S.due("unaryCost(" + v + ", 0)", x.unaryCost(v, 0), -1);
            S.due("unaryCost(" + v + ", d - 1)", x.unaryCost(v, d - 1), -1);
        }
        S.due("unaryCost(n, d)", x.unaryCost(n, d), -1);
        S.due("unaryCost(-1, -1)", x.unaryCost(-1, -1), -1);
        S.due("unaryCost(0, 0)", x.unaryCost(0, 0), 0);
        S.due("unaryCost(n - 1, 0)", x.unaryCost(n - 1, 0), 0);
    }

    private static void unaryCostValue(int n, int d) {
        WcspSolver x = new WcspSolver(n, d);
        for (int a : Sentences.outside(0, d - 1)) {
            S.due("unaryCost(0, " + a + ")", x.unaryCost(0, a), -1);
            S.due("unaryCost(n - 1, " + a + ")", x.unaryCost(n - 1, a), -1);
        }
        S.due("unaryCost(n - 1, d - 1)", x.unaryCost(n - 1, d - 1), 0);
    }

    private static void binaryCostTells(int n, int d) {
        for (int pair : Sentences.goodPairs(n)) {
            WcspSolver x = new WcspSolver(n, d);
            int turned = Sentences.turnedPair(n, pair);
            for (int values = 0; values < d * d; values++) {
                x.binary(pair, values, values == 1 ? F : 40 - values);
            }
            x.allow(pair / n, 1);
            for (int values = 0; values < d * d; values++) {
                int want = values == 1 ? 99 : 40 - values;
                int back = Sentences.turnedValues(d, values);
                S.due("binaryCost(" + pair + ", " + values + ")", x.binaryCost(pair, values), want);
                S.due("binaryCost(" + turned + ", " + back + ")", x.binaryCost(turned, back), want);
            }
        }
    }

    private static void binaryCostPair(int n, int d) {
        WcspSolver x = new WcspSolver(n, d);
        for (int pair : Sentences.outside(0, n * n - 1)) {
            S.due("binaryCost(" + pair + ", 0)", x.binaryCost(pair, 0), -1);
            S.due("binaryCost(" + pair + ", d*d)", x.binaryCost(pair, d * d), -1);
        }
        for (int pair : Sentences.samePairs(n)) {
            S.due("binaryCost(" + pair + ", 0)", x.binaryCost(pair, 0), -1);
            S.due("binaryCost(" + pair + ", 1)", x.binaryCost(pair, 1), -1);
            S.due("binaryCost(" + pair + ", d*d)", x.binaryCost(pair, d * d), -1);
        }
        for (int pair : Sentences.goodPairs(n)) {
            S.due("binaryCost(" + pair + ", 0)", x.binaryCost(pair, 0), 0);
        }
    }

    private static void binaryCostValues(int n, int d) {
        WcspSolver x = new WcspSolver(n, d);
        for (int values : Sentences.outside(0, d * d - 1)) {
            S.due("binaryCost(1, " + values + ")", x.binaryCost(1, values), -1);
            S.due("binaryCost(n*n - 2, " + values + ")", x.binaryCost(n * n - 2, values), -1);
        }
        S.due("binaryCost(n*n - 2, d*d - 1)", x.binaryCost(n * n - 2, d * d - 1), 0);
    }

    private static void allowSetsOne(int n, int d) {
        int full = (1 << d) - 1;
        for (int v = 0; v < n; v++) {
            WcspSolver x = new WcspSolver(n, d);
            x.allow(v, 1);
            x.allow(v, 2);
            S.due("allow(" + v + ", 1), allow(" + v + ", 2), then bestWith(" + v + ", 1)", x.bestWith(v, 1), 0);
            S.due("allow(" + v + ", 1), allow(" + v + ", 2), then bestWith(" + v + ", 0)", x.bestWith(v, 0), -3);
            for (int w = 0; w < n; w++) {
                S.due("allow(" + v + ", 2), then allow(" + w + ", all)", x.allow(w, full), w == v ? 2 : full);
            }
            S.due("all values allowed again, then countUpTo(0)", x.countUpTo(0), Sentences.power(d, n));
        }
    }

    private static void allowVariable(int n, int d) {
        WcspSolver x = new WcspSolver(n, d);
        for (int v : Sentences.outside(0, n - 1)) {
            S.due("allow(" + v + ", 1)", x.allow(v, 1), -1);
            S.due("allow(" + v + ", 2^d - 1)", x.allow(v, (1 << d) - 1), -1);
        }
        for (int v = 0; v < n; v++) {
            S.due("allow(" + v + ", 1)", x.allow(v, 1), (1 << d) - 1);
        }
    }

    private static void allowBadSet(int n, int d) {
        WcspSolver x = new WcspSolver(n, d);
        int full = (1 << d) - 1;
        for (int set : Sentences.outside(1, full)) {
            S.due("allow(0, " + set + ")", x.allow(0, set), -2);
            S.due("allow(n - 1, " + set + ")", x.allow(n - 1, set), -2);
        }
        S.due("allow(0, 2^(d+1) - 1)", x.allow(0, 2 * full + 1), -2);
        for (int set = 1; set <= full; set++) {
            S.due("allow(0, " + set + ")", x.allow(0, set), set == 1 ? full : set - 1);
        }
    }

    private static void allowBefore(int n, int d) {
        int full = (1 << d) - 1;
        for (int v = 0; v < n; v++) {
            WcspSolver x = new WcspSolver(n, d);
            int before = full;
            for (int first = 1; first <= full; first++) {
                for (int second = full; second >= 1; second--) {
                    S.due("allow(" + v + ", " + first + ")", x.allow(v, first), before);
                    S.due("allow(" + v + ", " + second + ")", x.allow(v, second), first);
                    before = second;
                }
            }
        }
    }
}
