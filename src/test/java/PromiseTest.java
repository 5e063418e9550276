/** Each promise of the document on its own: ordinary inputs, the named edges and wrong inputs. */
public final class PromiseTest {
    private static final int F = WcspSolver.FORBIDDEN;
    private static final int[] FAR = {Integer.MIN_VALUE, -1000, -2, -1, 1000, Integer.MAX_VALUE};

    private static int wrong = 0;

    private static void due(String what, int got, int want) {
        if (got != want) {
            wrong++;
            System.out.println(what + " answered " + got + ", due is " + want);
        }
    }

    /** Every cost and every allowed set, so that a test can see that a call changed nothing. */
    private static String state(WcspSolver x, int n, int d) {
        StringBuilder text = new StringBuilder();
        for (int v = 0; v < n; v++) {
            for (int a = 0; a < d; a++) {
                text.append(x.unaryCost(v, a)).append(' ');
            }
        }
        for (int pair = 0; pair < n * n; pair++) {
            for (int values = 0; values < d * d; values++) {
                text.append(x.binaryCost(pair, values)).append(' ');
            }
        }
        int full = (1 << d) - 1;
        for (int v = 0; v < n; v++) {
            int set = x.allow(v, full);
            x.allow(v, set);
            text.append(set).append(' ');
        }
        return text.toString();
    }

    private static void same(String what, String before, String after) {
        if (!before.equals(after)) {
            wrong++;
            System.out.println(what + " changed the object: " + before + "became " + after);
        }
    }

    private static int power(int d, int n) {
        return n == 0 ? 1 : d * power(d, n - 1);
    }

    public static void main(String[] args) {
        promise1();
        promise2();
        promise3();
        promise3EitherOrder();
        promise4();
        promise5();
        promise6();
        promise7();
        promise8();
        promise9();
        promise10();
        promise11();
        promise12();
        promise13();
        promise14();
        promise15();
        promise16();
        greatestCost();
        questionsChangeNothing();
        objectsAreApart();
        readmeExample();
        System.out.println(wrong == 0 ? "the promises hold" : wrong + " answers are not as due");
        if (wrong != 0) {
            System.exit(1);
        }
    }

    private static void promise1() {
        due("FORBIDDEN", WcspSolver.FORBIDDEN, 99);
        int[] asked = {Integer.MIN_VALUE, -1, 0, 1, 2, 3, 4, 5, 6, 7, 100, Integer.MAX_VALUE};
        for (int vars : asked) {
            for (int values : asked) {
                newObject(vars, values);
            }
        }
    }

    private static void newObject(int vars, int values) {
        String name = "new WcspSolver(" + vars + ", " + values + ")";
        int n = Math.max(2, Math.min(6, vars));
        int d = Math.max(2, Math.min(3, values));
        WcspSolver x = new WcspSolver(vars, values);
        due(name + " solutions", x.countUpTo(0), power(d, n));
        due(name + " last number", x.costOf(power(d, n) - 1), 0);
        due(name + " number past the last", x.costOf(power(d, n)), -1);
        due(name + " variable past the last", x.unaryCost(n, 0), -1);
        due(name + " value past the last", x.unaryCost(0, d), -1);
        for (int v = 0; v < n; v++) {
            for (int a = 0; a < d; a++) {
                due(name + " unaryCost", x.unaryCost(v, a), 0);
            }
            due(name + " allowed", x.allow(v, 1), (1 << d) - 1);
        }
        for (int pair = 0; pair < n * n; pair++) {
            for (int two = 0; two < d * d; two++) {
                due(name + " binaryCost " + pair, x.binaryCost(pair, two), pair / n == pair % n ? -1 : 0);
            }
        }
    }

    private static void promise2() {
        WcspSolver x = new WcspSolver(3, 2);
        due("unary first", x.unary(2, 1, 40), 0);
        due("unary second", x.unary(2, 1, F), 40);
        due("unary third", x.unary(2, 1, 0), F);
        due("unary fourth", x.unary(2, 1, 17), 0);
        due("unary neighbour value", x.unaryCost(2, 0), 0);
        due("unary neighbour variable", x.unaryCost(1, 1), 0);
        String before = state(x, 3, 2);
        for (int far : FAR) {
            due("unary v " + far, x.unary(far, 0, 1), -1);
            due("unary a " + far, x.unary(0, far, 1), -2);
            due("unary cost " + far, x.unary(0, 0, far), -3);
            due("unary all wrong " + far, x.unary(far, far, far), -1);
            due("unary a and cost wrong " + far, x.unary(0, far, far), -2);
        }
        due("unary v n", x.unary(3, 0, 1), -1);
        due("unary a d", x.unary(0, 2, 1), -2);
        int[] badCosts = {-1, 41, 42, 98, 100};
        for (int cost : badCosts) {
            due("unary cost " + cost, x.unary(2, 1, cost), -3);
        }
        same("a refused unary", before, state(x, 3, 2));
    }

    private static void promise3() {
        WcspSolver x = new WcspSolver(3, 3);
        due("binary first", x.binary(5, 7, 40), 0);
        due("binary second", x.binary(5, 7, F), 40);
        due("binary third", x.binary(5, 7, 0), F);
        due("binary fourth", x.binary(5, 7, 23), 0);
        String before = state(x, 3, 3);
        for (int far : FAR) {
            due("binary pair " + far, x.binary(far, 0, 1), -1);
            due("binary values " + far, x.binary(1, far, 1), -2);
            due("binary cost " + far, x.binary(1, 0, far), -3);
            due("binary all wrong " + far, x.binary(far, far, far), -1);
            due("binary values and cost wrong " + far, x.binary(1, far, far), -2);
        }
        int[] samePairs = {0, 4, 8, 9};
        for (int pair : samePairs) {
            due("binary pair " + pair, x.binary(pair, 0, 1), -1);
        }
        due("binary values d*d", x.binary(5, 9, 1), -2);
        int[] badCosts = {-1, 41, 42, 98, 100};
        for (int cost : badCosts) {
            due("binary cost " + cost, x.binary(5, 7, cost), -3);
        }
        same("a refused binary", before, state(x, 3, 3));
    }

    private static void promise3EitherOrder() {
        for (int n = 2; n <= 6; n++) {
            for (int d = 2; d <= 3; d++) {
                for (int pair = 0; pair < n * n; pair++) {
                    if (pair / n != pair % n) {
                        eitherOrder(n, d, pair / n, pair % n);
                    }
                }
            }
        }
    }

    private static void eitherOrder(int n, int d, int u, int v) {
        WcspSolver x = new WcspSolver(n, d);
        for (int values = 0; values < d * d; values++) {
            int a = values / d;
            int b = values % d;
            String name = n + " " + d + " binary of " + u + "=" + a + " " + v + "=" + b;
            due(name, x.binary(n * u + v, d * a + b, values + 1), 0);
            due(name + " turned", x.binary(n * v + u, d * b + a, values + 11), values + 1);
            due(name + " back", x.binary(n * u + v, d * a + b, values + 21), values + 11);
        }
        for (int pair = 0; pair < n * n; pair++) {
            for (int values = 0; values < d * d; values++) {
                int want = 0;
                if (pair == n * u + v) {
                    want = values + 21;
                } else if (pair == n * v + u) {
                    want = d * (values % d) + values / d + 21;
                } else if (pair / n == pair % n) {
                    want = -1;
                }
                due(n + " " + d + " binaryCost " + pair + " " + values, x.binaryCost(pair, values), want);
            }
        }
    }

    private static void promise4() {
        int[][] tables = {
            {0, 1, 2, 1, 0, 1, 2, 1, 0},
            {1, 0, 0, 0, 1, 0, 0, 0, 1},
            {0, 0, 0, 0, 1, 2, 0, 2, 4},
        };
        for (int kind = 0; kind < 3; kind++) {
            for (int weight = 0; weight <= 10; weight++) {
                for (int pair = 1; pair <= 3; pair += 2) {
                    WcspSolver x = new WcspSolver(3, 3);
                    x.binary(1, 4, F);
                    x.binary(1, 2, 39);
                    due("relate", x.relate(pair, kind, weight), 0);
                    for (int values = 0; values < 9; values++) {
                        String name = "relate " + pair + " " + kind + " " + weight + " at " + values;
                        due(name, x.binaryCost(1, values), weight * tables[kind][values]);
                        due(name + " elsewhere", x.binaryCost(2, values), 0);
                        due(name + " elsewhere", x.binaryCost(5, values), 0);
                    }
                }
            }
        }
        WcspSolver x = new WcspSolver(3, 2);
        due("relate of two values", x.relate(7, 0, 10), 0);
        due("relate of two values 0 0", x.binaryCost(5, 0), 0);
        due("relate of two values 0 1", x.binaryCost(5, 1), 10);
        due("relate of two values 1 0", x.binaryCost(5, 2), 10);
        due("relate of two values 1 1", x.binaryCost(5, 3), 0);
        relateRefuses(x);
    }

    private static void relateRefuses(WcspSolver x) {
        String before = state(x, 3, 2);
        for (int far : FAR) {
            due("relate pair " + far, x.relate(far, 0, 1), -1);
            due("relate kind " + far, x.relate(1, far, 1), -2);
            due("relate weight " + far, x.relate(1, 0, far), -3);
            due("relate all wrong " + far, x.relate(far, far, far), -1);
            due("relate kind and weight wrong " + far, x.relate(1, far, far), -2);
        }
        int[] samePairs = {0, 4, 8, 9};
        for (int pair : samePairs) {
            due("relate pair " + pair, x.relate(pair, 0, 1), -1);
        }
        due("relate kind 3", x.relate(5, 3, 1), -2);
        due("relate weight 11", x.relate(5, 0, 11), -3);
        due("relate weight 99", x.relate(5, 1, F), -3);
        same("a refused relate", before, state(x, 3, 2));
    }

    private static void promise5() {
        for (int n = 2; n <= 6; n++) {
            for (int d = 2; d <= 3; d++) {
                WcspSolver x = new WcspSolver(n, d);
                for (int v = 0; v < n; v++) {
                    for (int a = 0; a < d; a++) {
                        x.unary(v, a, 3 * v + a + 1);
                    }
                }
                for (int v = 0; v < n; v++) {
                    for (int a = 0; a < d; a++) {
                        due("unaryCost " + v + " " + a, x.unaryCost(v, a), 3 * v + a + 1);
                    }
                    due("unaryCost a d", x.unaryCost(v, d), -1);
                }
                due("unaryCost v n", x.unaryCost(n, 0), -1);
                for (int far : FAR) {
                    due("unaryCost v " + far, x.unaryCost(far, 0), -1);
                    due("unaryCost a " + far, x.unaryCost(0, far), -1);
                    due("unaryCost both " + far, x.unaryCost(far, far), -1);
                }
            }
        }
        WcspSolver x = new WcspSolver(2, 2);
        x.unary(1, 0, F);
        due("unaryCost FORBIDDEN", x.unaryCost(1, 0), 99);
        x.allow(1, 2);
        due("unaryCost of a value not allowed", x.unaryCost(1, 0), 99);
    }

    private static void promise6() {
        WcspSolver x = new WcspSolver(4, 3);
        x.binary(4 * 1 + 3, 3 * 2 + 0, F);
        x.binary(4 * 3 + 1, 3 * 2 + 1, 8);
        due("binaryCost 1=2 3=0", x.binaryCost(7, 6), 99);
        due("binaryCost 3=0 1=2", x.binaryCost(13, 2), 99);
        due("binaryCost 1=1 3=2", x.binaryCost(7, 5), 8);
        due("binaryCost 3=2 1=1", x.binaryCost(13, 7), 8);
        due("binaryCost 1=0 3=2", x.binaryCost(7, 2), 0);
        for (int far : FAR) {
            due("binaryCost pair " + far, x.binaryCost(far, 0), -1);
            due("binaryCost values " + far, x.binaryCost(1, far), -1);
            due("binaryCost both " + far, x.binaryCost(far, far), -1);
        }
        int[] samePairs = {0, 5, 10, 15, 16};
        for (int pair : samePairs) {
            due("binaryCost pair " + pair, x.binaryCost(pair, 0), -1);
        }
        due("binaryCost values d*d", x.binaryCost(1, 9), -1);
    }

    private static void promise7() {
        WcspSolver x = new WcspSolver(3, 3);
        due("allow first", x.allow(1, 1), 7);
        due("allow second", x.allow(1, 6), 1);
        due("solutions of two allowed values", x.countUpTo(0), 18);
        due("value 0 not allowed", x.bestWith(1, 0), -3);
        due("value 1 allowed", x.bestWith(1, 1), 0);
        due("value 2 allowed", x.bestWith(1, 2), 0);
        due("another variable", x.bestWith(0, 0), 0);
        due("allow third", x.allow(1, 5), 6);
        due("value 1 not allowed", x.bestWith(1, 1), -3);
        due("allow of all", x.allow(1, 7), 5);
        due("solutions of all values", x.countUpTo(0), 27);
        due("allow the same", x.allow(2, 3), 7);
        due("allow the same again", x.allow(2, 3), 3);
        String before = state(x, 3, 3);
        for (int far : FAR) {
            due("allow v " + far, x.allow(far, 1), -1);
            due("allow set " + far, x.allow(0, far), -2);
            due("allow both wrong " + far, x.allow(far, far), -1);
        }
        due("allow v n", x.allow(3, 1), -1);
        due("allow nothing", x.allow(2, 0), -2);
        due("allow set 8", x.allow(2, 8), -2);
        same("a refused allow", before, state(x, 3, 3));
        WcspSolver y = new WcspSolver(2, 2);
        due("allow set 3 of two values", y.allow(0, 3), 3);
        due("allow set 4 of two values", y.allow(0, 4), -2);
        due("allow set 2 of two values", y.allow(0, 2), 3);
    }

    /**
     * Two variables, three values. The rows are value(0), the columns value(1); with the unary costs
     * the nine costs by number are 7, 4, -, 3, 10, 3, -, 5, 40 (- is no solution).
     */
    private static WcspSolver grid() {
        WcspSolver x = new WcspSolver(2, 3);
        x.unary(0, 0, 2);
        x.unary(1, 1, 1);
        x.binary(1, 0, 5);
        x.binary(1, 1, 1);
        x.binary(1, 2, F);
        x.binary(1, 3, 3);
        x.binary(1, 4, 9);
        x.binary(1, 5, 3);
        x.binary(1, 6, F);
        x.binary(1, 7, 4);
        x.binary(1, 8, 40);
        return x;
    }

    private static WcspSolver unsolvable() {
        WcspSolver x = new WcspSolver(3, 2);
        x.unary(2, 0, F);
        x.binary(5, 1, F);
        x.binary(5, 3, F);
        return x;
    }

    private static void promise8() {
        due("best of a new object", new WcspSolver(6, 3).best(), 0);
        WcspSolver x = grid();
        due("best", x.best(), 3);
        x.allow(0, 5);
        due("best without value 1 of 0", x.best(), 4);
        x.allow(1, 5);
        due("best of 7 and 40", x.best(), 7);
        x.allow(0, 4);
        due("best of 40", x.best(), 40);
        x.allow(1, 1);
        due("best of nothing", x.best(), -1);
        WcspSolver y = unsolvable();
        due("best of none", y.best(), -1);
        y.unary(2, 0, 40);
        due("best of value 0", y.best(), 40);
        y.allow(2, 2);
        due("best with the pair forbidden", y.best(), -1);
        y.binary(7, 3, 12);
        due("best with the pair mended", y.best(), 12);
    }

    private static void promise9() {
        due("bestCount of a new object", new WcspSolver(6, 3).bestCount(), 729);
        WcspSolver x = grid();
        due("bestCount", x.bestCount(), 2);
        x.unary(1, 2, 1);
        due("bestCount of one", x.bestCount(), 1);
        x.allow(1, 6);
        due("bestCount of two at 4", x.bestCount(), 2);
        due("bestCount of none", unsolvable().bestCount(), 0);
    }

    private static void promise10() {
        WcspSolver x = grid();
        due("bestValue 0", x.bestValue(0), 1);
        due("bestValue 1, the first of 0 and 2", x.bestValue(1), 0);
        x.allow(1, 6);
        due("bestValue 1 without 0", x.bestValue(1), 2);
        x.unary(1, 2, 1);
        due("bestValue 0 of 0 and 1", x.bestValue(0), 0);
        due("bestValue 1 of 1 and 2", x.bestValue(1), 1);
        due("bestValue v n", x.bestValue(2), -1);
        WcspSolver none = unsolvable();
        for (int far : FAR) {
            due("bestValue v " + far, x.bestValue(far), -1);
            due("bestValue of none v " + far, none.bestValue(far), -1);
        }
        due("bestValue of none v n", none.bestValue(3), -1);
        for (int v = 0; v < 3; v++) {
            due("bestValue of none", none.bestValue(v), -2);
        }
        variableZeroIsTheFirstDigit();
    }

    private static void variableZeroIsTheFirstDigit() {
        WcspSolver x = new WcspSolver(6, 3);
        for (int v = 0; v < 6; v++) {
            due("bestValue " + v + " of a new object", x.bestValue(v), 0);
        }
        x.relate(6 * 0 + 5, 1, 1);
        for (int v = 0; v < 5; v++) {
            due("bestValue " + v + " of six", x.bestValue(v), 0);
        }
        due("bestValue 5 of six", x.bestValue(5), 1);
        x.allow(5, 1);
        due("bestValue 0 when 5 is 0", x.bestValue(0), 1);
        due("bestValue 4 when 5 is 0", x.bestValue(4), 0);
        due("bestValue 5 when 5 is 0", x.bestValue(5), 0);
    }

    private static void promise11() {
        WcspSolver x = grid();
        int[] rows = {4, 3, 5};
        int[] columns = {3, 4, 3};
        for (int a = 0; a < 3; a++) {
            due("bestWith 0 " + a, x.bestWith(0, a), rows[a]);
            due("bestWith 1 " + a, x.bestWith(1, a), columns[a]);
        }
        x.allow(0, 5);
        due("bestWith a value not allowed", x.bestWith(0, 1), -3);
        due("bestWith 1 0 without 1 of 0", x.bestWith(1, 0), 7);
        due("bestWith 1 2 without 1 of 0", x.bestWith(1, 2), 40);
        x.unary(1, 2, F);
        due("bestWith a forbidden value", x.bestWith(1, 2), -3);
        due("bestWith v n", x.bestWith(2, 0), -1);
        due("bestWith a d", x.bestWith(0, 3), -2);
        due("bestWith v n and a d", x.bestWith(2, 3), -1);
        WcspSolver none = unsolvable();
        for (int far : FAR) {
            due("bestWith v " + far, x.bestWith(far, 0), -1);
            due("bestWith a " + far, x.bestWith(0, far), -2);
            due("bestWith both " + far, none.bestWith(far, far), -1);
            due("bestWith of none a " + far, none.bestWith(0, far), -2);
        }
        due("bestWith of none", none.bestWith(0, 0), -3);
    }

    private static void promise12() {
        WcspSolver x = grid();
        int[] costs = {7, 4, -3, 3, 10, 3, -3, 5, 40};
        for (int values = 0; values < 9; values++) {
            int turned = 3 * (values % 3) + values / 3;
            due("bestWithPair 1 " + values, x.bestWithPair(1, values), costs[values]);
            due("bestWithPair 2 " + turned, x.bestWithPair(2, turned), costs[values]);
        }
        x.allow(0, 3);
        due("bestWithPair a value not allowed", x.bestWithPair(1, 7), -3);
        int[] badPairs = {0, 3, 4};
        for (int pair : badPairs) {
            due("bestWithPair pair " + pair, x.bestWithPair(pair, 0), -1);
            due("bestWithPair pair and values wrong", x.bestWithPair(pair, 9), -1);
        }
        due("bestWithPair values d*d", x.bestWithPair(1, 9), -2);
        WcspSolver none = unsolvable();
        for (int far : FAR) {
            due("bestWithPair pair " + far, x.bestWithPair(far, 0), -1);
            due("bestWithPair values " + far, x.bestWithPair(1, far), -2);
            due("bestWithPair both " + far, none.bestWithPair(far, far), -1);
            due("bestWithPair of none values " + far, none.bestWithPair(1, far), -2);
        }
        due("bestWithPair of none", none.bestWithPair(1, 0), -3);
        WcspSolver y = new WcspSolver(3, 2);
        y.unary(1, 0, 6);
        y.unary(1, 1, 4);
        y.binary(1, 3, 3);
        due("bestWithPair leaves the third free", y.bestWithPair(2, 2), 6);
        due("bestWithPair of 0=0 2=1", y.bestWithPair(6, 2), 4);
    }

    private static void promise13() {
        WcspSolver x = grid();
        int[] bounds = {Integer.MIN_VALUE, -1, 0, 2, 3, 4, 5, 6, 7, 9, 10, 39, 40, 99, Integer.MAX_VALUE};
        int[] counts = {0, 0, 0, 0, 2, 3, 4, 4, 5, 5, 6, 6, 7, 7, 7};
        for (int i = 0; i < bounds.length; i++) {
            due("countUpTo " + bounds[i], x.countUpTo(bounds[i]), counts[i]);
        }
        x.allow(1, 4);
        due("countUpTo when 1 is 2", x.countUpTo(40), 2);
        due("countUpTo of none", unsolvable().countUpTo(Integer.MAX_VALUE), 0);
        due("countUpTo -1 of a new object", new WcspSolver(2, 2).countUpTo(-1), 0);
    }

    private static void promise14() {
        WcspSolver x = grid();
        int[] costs = {Integer.MIN_VALUE, -1, 0, 2, 3, 4, 5, 6, 7, 9, 10, 39, 40, 99, Integer.MAX_VALUE};
        int[] nexts = {3, 3, 3, 3, 4, 5, 7, 7, 10, 10, 40, 40, -1, -1, -1};
        for (int i = 0; i < costs.length; i++) {
            due("nextCost " + costs[i], x.nextCost(costs[i]), nexts[i]);
        }
        x.allow(1, 4);
        due("nextCost when 1 is 2", x.nextCost(3), 40);
        due("nextCost of none", unsolvable().nextCost(Integer.MIN_VALUE), -1);
        WcspSolver fresh = new WcspSolver(2, 2);
        due("nextCost -1 of a new object", fresh.nextCost(-1), 0);
        due("nextCost -2 of a new object", fresh.nextCost(-2), 0);
        due("nextCost 0 of a new object", fresh.nextCost(0), -1);
    }

    private static void promise15() {
        WcspSolver x = grid();
        int[] costs = {7, 4, -2, 3, 10, 3, -2, 5, 40};
        for (int number = 0; number < 9; number++) {
            due("costOf " + number, x.costOf(number), costs[number]);
        }
        due("costOf d^n", x.costOf(9), -1);
        x.allow(1, 3);
        due("costOf a value not allowed", x.costOf(8), -2);
        due("costOf allowed values", x.costOf(7), 5);
        x.unary(0, 1, F);
        due("costOf a forbidden value", x.costOf(3), -2);
        WcspSolver none = unsolvable();
        for (int far : FAR) {
            due("costOf " + far, x.costOf(far), -1);
            due("costOf of none " + far, none.costOf(far), -1);
        }
        WcspSolver y = new WcspSolver(4, 2);
        y.unary(0, 1, 1);
        y.unary(1, 1, 2);
        y.unary(2, 1, 4);
        y.unary(3, 1, 8);
        int[] turned = {0, 8, 4, 12, 2, 10, 6, 14, 1, 9, 5, 13, 3, 11, 7, 15};
        for (int number = 0; number < 16; number++) {
            due("costOf of digits " + number, y.costOf(number), turned[number]);
        }
    }

    private static void promise16() {
        WcspSolver x = grid();
        due("choices 0", x.choices(0), 1);
        due("choices 1", x.choices(1), 2);
        x.unary(1, 0, F);
        x.unary(1, 2, 1);
        due("choices 0 of 0 and 1", x.choices(0), 2);
        due("choices 1 of 1 and 2", x.choices(1), 2);
        due("choices v n", x.choices(2), -1);
        WcspSolver none = unsolvable();
        WcspSolver fresh = new WcspSolver(6, 3);
        for (int far : FAR) {
            due("choices " + far, x.choices(far), -1);
            due("choices of none " + far, none.choices(far), -1);
        }
        due("choices of none v n", none.choices(3), -1);
        for (int v = 0; v < 3; v++) {
            due("choices of none", none.choices(v), 0);
        }
        for (int v = 0; v < 6; v++) {
            due("choices of a new object", fresh.choices(v), 3);
        }
        fresh.allow(3, 5);
        due("choices of two allowed values", fresh.choices(3), 2);
    }

    /** The sum passes 99, so a sum that happens to be 99 or more is no FORBIDDEN cost. */
    private static void greatestCost() {
        WcspSolver x = new WcspSolver(6, 3);
        for (int v = 0; v < 6; v++) {
            x.unary(v, 2, 40);
            x.allow(v, 4);
            for (int u = 0; u < v; u++) {
                x.relate(6 * u + v, 2, 10);
            }
        }
        due("greatest best", x.best(), 840);
        due("greatest costOf", x.costOf(728), 840);
        due("greatest countUpTo", x.countUpTo(840), 1);
        due("greatest nextCost", x.nextCost(839), 840);
        WcspSolver y = new WcspSolver(2, 2);
        y.unary(0, 1, 40);
        y.unary(1, 1, 40);
        y.binary(1, 3, 19);
        due("a sum of 99", y.costOf(3), 99);
        due("a best with of 99", y.bestWithPair(1, 3), 99);
    }

    private static void questionsChangeNothing() {
        WcspSolver x = grid();
        x.allow(0, 6);
        String before = state(x, 2, 3);
        for (int round = 0; round < 2; round++) {
            due("best again", x.best(), 3);
            due("bestCount again", x.bestCount(), 2);
            due("bestValue again", x.bestValue(0), 1);
            due("bestWith again", x.bestWith(0, 2), 5);
            due("bestWithPair again", x.bestWithPair(1, 8), 40);
            due("countUpTo again", x.countUpTo(5), 3);
            due("nextCost again", x.nextCost(3), 5);
            due("costOf again", x.costOf(4), 10);
            due("costOf not allowed again", x.costOf(0), -2);
            due("choices again", x.choices(1), 2);
        }
        same("a question", before, state(x, 2, 3));
    }

    private static void objectsAreApart() {
        WcspSolver x = new WcspSolver(2, 2);
        WcspSolver y = new WcspSolver(2, 2);
        x.unary(0, 0, 5);
        x.binary(1, 0, 6);
        x.allow(1, 1);
        due("the other's unary cost", y.unaryCost(0, 0), 0);
        due("the other's binary cost", y.binaryCost(1, 0), 0);
        due("the other's allowed set", y.allow(1, 3), 3);
    }

    /** The example of README.md, so that what its comments say stays true. */
    private static void readmeExample() {
        WcspSolver x = new WcspSolver(3, 2);
        due("README unary", x.unary(0, 0, 5), 0);
        due("README relate", x.relate(3 * 0 + 1, 1, 4), 0);
        due("README binary", x.binary(3 * 1 + 2, 2 * 0 + 0, WcspSolver.FORBIDDEN), 0);
        due("README best", x.best(), 0);
        due("README bestValue", x.bestValue(0), 1);
        due("README allow", x.allow(0, 1), 3);
        due("README best after allow", x.best(), 5);
        due("README unary of no variable", x.unary(3, 0, 5), -1);
    }
}
