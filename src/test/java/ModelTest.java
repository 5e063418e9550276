import java.util.ArrayList;
import java.util.List;

/**
 * Long runs of calls against a second, slower telling of the document: the costs lie in nested
 * arrays in both orders, and the solutions are listed one by one.
 */
public final class ModelTest {
    private static final int CALLS = 512;
    private static final int RUNS = 1500;

    private static int wrong = 0;
    private static long seed = 1;

    /** Fixed numbers, so that a failing run fails again. */
    private static int pick(int count) {
        seed = seed * 6364136223846793005L + 1442695040888963407L;
        return (int) ((seed >>> 33) % count);
    }

    private static int near(int low, int high) {
        int kind = pick(40);
        if (kind == 0) {
            return pick(2) == 0 ? Integer.MIN_VALUE : Integer.MAX_VALUE;
        }
        if (kind <= 2) {
            return pick(2) == 0 ? low - 1 : high + 1;
        }
        return low + pick(high - low + 1);
    }

    private static int someCost() {
        int kind = pick(12);
        if (kind == 0) {
            return near(0, 40);
        }
        if (kind <= 2) {
            return WcspSolver.FORBIDDEN;
        }
        return kind <= 8 ? pick(6) : pick(41);
    }

    private record Solution(int[] values, int cost) { }

    private static final class Model {
        final int n;
        final int d;
        final int[][] unary;
        final int[][][][] binary;
        final boolean[][] allowed;

        Model(int vars, int values) {
            n = Math.min(6, Math.max(2, vars));
            d = Math.min(3, Math.max(2, values));
            unary = new int[n][d];
            binary = new int[n][n][d][d];
            allowed = new boolean[n][d];
            for (boolean[] row : allowed) {
                java.util.Arrays.fill(row, true);
            }
        }

        boolean goodCost(int cost) {
            return cost == 99 || 0 <= cost && cost <= 40;
        }

        boolean goodPair(int pair) {
            return 0 <= pair && pair < n * n && pair % (n + 1) != 0;
        }

        void set(int u, int v, int a, int b, int cost) {
            binary[u][v][a][b] = cost;
            binary[v][u][b][a] = cost;
        }

        /** The cost of an assignment by its values, or -2 where the document says -2. */
        int cost(int[] values) {
            int sum = 0;
            for (int v = 0; v < n; v++) {
                if (!allowed[v][values[v]] || unary[v][values[v]] == 99) {
                    return -2;
                }
                sum += unary[v][values[v]];
                for (int u = v + 1; u < n; u++) {
                    int cost = binary[v][u][values[v]][values[u]];
                    if (cost == 99) {
                        return -2;
                    }
                    sum += cost;
                }
            }
            return sum;
        }

        /** All solutions in the order of their numbers. */
        List<Solution> solutions() {
            List<Solution> all = new ArrayList<>();
            collect(new int[n], 0, all);
            return all;
        }

        private void collect(int[] values, int v, List<Solution> all) {
            if (v == n) {
                int cost = cost(values);
                if (cost != -2) {
                    all.add(new Solution(values.clone(), cost));
                }
                return;
            }
            for (int a = 0; a < d; a++) {
                values[v] = a;
                collect(values, v + 1, all);
            }
        }

        int unary(int v, int a, int cost) {
            if (v < 0 || v >= n) {
                return -1;
            }
            if (a < 0 || a >= d) {
                return -2;
            }
            if (!goodCost(cost)) {
                return -3;
            }
            int before = unary[v][a];
            unary[v][a] = cost;
            return before;
        }

        int binary(int pair, int values, int cost) {
            if (!goodPair(pair)) {
                return -1;
            }
            if (values < 0 || values >= d * d) {
                return -2;
            }
            if (!goodCost(cost)) {
                return -3;
            }
            int before = binary[pair / n][pair % n][values / d][values % d];
            set(pair / n, pair % n, values / d, values % d, cost);
            return before;
        }

        int relate(int pair, int kind, int weight) {
            if (!goodPair(pair)) {
                return -1;
            }
            if (kind < 0 || kind > 2) {
                return -2;
            }
            if (weight < 0 || weight > 10) {
                return -3;
            }
            for (int a = 0; a < d; a++) {
                for (int b = 0; b < d; b++) {
                    int[] t = {Math.abs(a - b), a == b ? 1 : 0, a * b};
                    set(pair / n, pair % n, a, b, weight * t[kind]);
                }
            }
            return 0;
        }

        int unaryCost(int v, int a) {
            return v < 0 || v >= n || a < 0 || a >= d ? -1 : unary[v][a];
        }

        int binaryCost(int pair, int values) {
            if (!goodPair(pair) || values < 0 || values >= d * d) {
                return -1;
            }
            return binary[pair / n][pair % n][values / d][values % d];
        }

        int allow(int v, int set) {
            if (v < 0 || v >= n) {
                return -1;
            }
            if (set < 1 || set >= 1 << d) {
                return -2;
            }
            int before = 0;
            for (int a = 0; a < d; a++) {
                before += allowed[v][a] ? 1 << a : 0;
                allowed[v][a] = (set & 1 << a) != 0;
            }
            return before;
        }

        int best() {
            return solutions().stream().mapToInt(Solution::cost).min().orElse(-1);
        }

        int bestCount() {
            int best = best();
            return (int) solutions().stream().filter(s -> s.cost() == best).count();
        }

        int bestValue(int v) {
            if (v < 0 || v >= n) {
                return -1;
            }
            int best = best();
            return solutions().stream().filter(s -> s.cost() == best).findFirst()
                    .map(s -> s.values()[v]).orElse(-2);
        }

        int bestWith(int v, int a) {
            if (v < 0 || v >= n) {
                return -1;
            }
            if (a < 0 || a >= d) {
                return -2;
            }
            return solutions().stream().filter(s -> s.values()[v] == a)
                    .mapToInt(Solution::cost).min().orElse(-3);
        }

        int bestWithPair(int pair, int values) {
            if (!goodPair(pair)) {
                return -1;
            }
            if (values < 0 || values >= d * d) {
                return -2;
            }
            return solutions().stream()
                    .filter(s -> s.values()[pair / n] == values / d && s.values()[pair % n] == values % d)
                    .mapToInt(Solution::cost).min().orElse(-3);
        }

        int countUpTo(int bound) {
            return (int) solutions().stream().filter(s -> s.cost() <= bound).count();
        }

        int nextCost(int cost) {
            return solutions().stream().mapToInt(Solution::cost).filter(c -> c > cost).min().orElse(-1);
        }

        int costOf(int number) {
            if (number < 0 || number >= Math.round(Math.pow(d, n))) {
                return -1;
            }
            int[] values = new int[n];
            for (int v = n - 1, rest = number; v >= 0; v--, rest /= d) {
                values[v] = rest % d;
            }
            return cost(values);
        }

        int choices(int v) {
            if (v < 0 || v >= n) {
                return -1;
            }
            int best = best();
            return (int) solutions().stream().filter(s -> s.cost() == best)
                    .map(s -> s.values()[v]).distinct().count();
        }
    }

    private static void due(int run, int call, String what, int got, int want) {
        if (got != want) {
            wrong++;
            if (wrong <= 20) {
                System.out.println("run " + run + " call " + call + ": " + what + " answered " + got
                        + ", due is " + want);
            }
        }
    }

    private static void change(int run, int call, WcspSolver x, Model m) {
        int v = near(0, m.n - 1);
        int a = near(0, m.d - 1);
        int pair = near(0, m.n * m.n - 1);
        int values = near(0, m.d * m.d - 1);
        int cost = someCost();
        int kind = near(0, 2);
        int weight = near(0, 10);
        int set = near(1, (1 << m.d) - 1);
        switch (pick(8)) {
            case 0, 1, 2 -> due(run, call, "unary(" + v + ", " + a + ", " + cost + ")",
                    x.unary(v, a, cost), m.unary(v, a, cost));
            case 3, 4, 5 -> due(run, call, "binary(" + pair + ", " + values + ", " + cost + ")",
                    x.binary(pair, values, cost), m.binary(pair, values, cost));
            case 6 -> due(run, call, "relate(" + pair + ", " + kind + ", " + weight + ")",
                    x.relate(pair, kind, weight), m.relate(pair, kind, weight));
            default -> due(run, call, "allow(" + v + ", " + set + ")", x.allow(v, set), m.allow(v, set));
        }
    }

    private static void ask(int run, int call, WcspSolver x, Model m) {
        int v = near(0, m.n - 1);
        int a = near(0, m.d - 1);
        int pair = near(0, m.n * m.n - 1);
        int values = near(0, m.d * m.d - 1);
        int bound = pick(4) == 0 ? near(0, 840) : near(0, 60);
        int number = near(0, (int) Math.round(Math.pow(m.d, m.n)) - 1);
        switch (pick(11)) {
            case 0 -> due(run, call, "unaryCost(" + v + ", " + a + ")", x.unaryCost(v, a), m.unaryCost(v, a));
            case 1 -> due(run, call, "binaryCost(" + pair + ", " + values + ")",
                    x.binaryCost(pair, values), m.binaryCost(pair, values));
            case 2 -> due(run, call, "best()", x.best(), m.best());
            case 3 -> due(run, call, "bestCount()", x.bestCount(), m.bestCount());
            case 4 -> due(run, call, "bestValue(" + v + ")", x.bestValue(v), m.bestValue(v));
            case 5 -> due(run, call, "bestWith(" + v + ", " + a + ")", x.bestWith(v, a), m.bestWith(v, a));
            case 6 -> due(run, call, "bestWithPair(" + pair + ", " + values + ")",
                    x.bestWithPair(pair, values), m.bestWithPair(pair, values));
            case 7 -> due(run, call, "countUpTo(" + bound + ")", x.countUpTo(bound), m.countUpTo(bound));
            case 8 -> due(run, call, "nextCost(" + bound + ")", x.nextCost(bound), m.nextCost(bound));
            case 9 -> due(run, call, "costOf(" + number + ")", x.costOf(number), m.costOf(number));
            default -> due(run, call, "choices(" + v + ")", x.choices(v), m.choices(v));
        }
    }

    public static void main(String[] args) {
        for (int run = 0; run < RUNS; run++) {
            int vars = near(2, 6);
            int values = near(2, 3);
            WcspSolver x = new WcspSolver(vars, values);
            Model m = new Model(vars, values);
            int changesInTen = 2 + pick(5);
            for (int call = 0; call < CALLS; call++) {
                if (pick(10) < changesInTen) {
                    change(run, call, x, m);
                } else {
                    ask(run, call, x, m);
                }
            }
        }
        System.out.println(wrong == 0 ? "all answers are the model's" : wrong + " answers are not the model's");
        if (wrong != 0) {
            System.exit(1);
        }
    }
}
