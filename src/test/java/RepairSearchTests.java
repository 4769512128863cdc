import java.util.Arrays;

/** Promises 33 to 36: the best repair against all plans for small stocks, and against PlainRepair for large ones. */
public final class RepairSearchTests {
    private static final int NONE = -100006;

    private static final Due due = new Due();

    private int processes;
    private int[][] costs;
    private int grant;
    private int burn;
    private CutRepairer x;
    private final StringBuilder told = new StringBuilder();

    public static void main(String[] args) {
        for (int seed = 0; seed < 400; seed++) {
            new RepairSearchTests().small(new Chance(seed), 2, 5, 10);
        }
        for (int seed = 0; seed < 15; seed++) {
            new RepairSearchTests().small(new Chance(1000 + seed), 3, 2, 4);
        }
        for (int seed = 0; seed < 600; seed++) {
            new RepairSearchTests().large(new Chance(2000 + seed));
        }
        due.end();
    }

    private void begin(Chance chance, int n, int mostCost) {
        processes = n;
        x = Bench.of(n);
        costs = new int[n][n];
        told.append("n ").append(n);
        for (int p = 0; p < n; p++) {
            for (int q = 0; q < n; q++) {
                if (p != q) {
                    costs[p][q] = chance.between(1, mostCost);
                    x.setMoveCost(p, q, costs[p][q]);
                }
            }
        }
        grant = chance.between(1, mostCost);
        burn = chance.between(1, mostCost);
        x.setOutsideCosts(grant, burn);
        told.append(" costs ").append(Arrays.deepToString(costs)).append(' ').append(grant).append(' ').append(burn);
    }

    // ---- all plans

    private int[] stocks;
    private int[][] rules;
    private int most;
    private int[] plan;
    private int[] best;
    private int bestCost;

    private void small(Chance chance, int n, int mostStock, int mostAmount) {
        begin(chance, n, 4);
        stocks = new int[n];
        for (int p = 0; p < n; p++) {
            stocks[p] = chance.between(0, mostStock);
            x.setStock(p, 0, stocks[p]);
        }
        rules = new int[chance.between(1, 4)][];
        for (int r = 0; r < rules.length; r++) {
            int subject = chance.oneOf(chance.below(n), chance.below(n), 8);
            rules[r] = new int[] {subject, chance.below(3), chance.between(0, subject == 8 ? 2 * mostStock : mostStock)};
            String text = (subject == 8 ? "*" : String.valueOf(subject)) + "a" + new String[] {"<=", ">=", "="}[rules[r][1]]
                + rules[r][2];
            told.append(' ').append(text);
            Bench.rule(x, text);
        }
        told.append(" stocks ").append(Arrays.toString(stocks));
        most = mostAmount;
        plan = new int[n * (n - 1) + 2 * n];
        best = null;
        bestCost = Integer.MAX_VALUE;
        tryAll(0, stocks.clone(), 0);
        compare();
    }

    /** The plans come in lexicographic order, so that of several cheapest ones the first is kept. */
    private void tryAll(int place, int[] repaired, int cost) {
        if (cost >= bestCost) {
            return;
        }
        if (place == plan.length) {
            if (keepsRules(repaired)) {
                best = plan.clone();
                bestCost = cost;
            }
            return;
        }
        int[] way = wayOf(place);
        for (int units = 0; units <= most; units++) {
            plan[place] = units;
            shift(repaired, way, units);
            tryAll(place + 1, repaired, cost + units * way[2]);
            shift(repaired, way, -units);
        }
        plan[place] = 0;
    }

    private void shift(int[] repaired, int[] way, int units) {
        if (way[0] >= 0) {
            repaired[way[0]] -= units;
        }
        if (way[1] >= 0) {
            repaired[way[1]] += units;
        }
    }

    private boolean keepsRules(int[] repaired) {
        int sum = 0;
        for (int stock : repaired) {
            if (stock < 0 || stock > 1000) {
                return false;
            }
            sum += stock;
        }
        for (int[] rule : rules) {
            int value = rule[0] == 8 ? sum : repaired[rule[0]];
            boolean kept = rule[1] == 0 ? value <= rule[2] : rule[1] == 1 ? value >= rule[2] : value == rule[2];
            if (!kept) {
                return false;
            }
        }
        return true;
    }

    /** From, to (-1 is the outside) and cost of an amount of the plan. */
    private int[] wayOf(int place) {
        int moves = processes * (processes - 1);
        if (place >= moves + processes) {
            return new int[] {place - moves - processes, -1, burn};
        }
        if (place >= moves) {
            return new int[] {-1, place - moves, grant};
        }
        int from = place / (processes - 1);
        int to = place % (processes - 1);
        to = to >= from ? to + 1 : to;
        return new int[] {from, to, costs[from][to]};
    }

    private void compare() {
        due.is(told + ": cost", x.repairCost(), best == null ? NONE : bestCost);
        if (best == null) {
            return;
        }
        int[] repaired = stocks.clone();
        for (int place = 0; place < plan.length; place++) {
            int[] way = wayOf(place);
            int answer = way[0] < 0 ? x.outside(way[1], 0, false)
                : way[1] < 0 ? x.outside(way[0], 0, true) : x.moved(way[0], way[1], 0);
            due.is(told + ": amount " + place, answer, best[place]);
            shift(repaired, way, best[place]);
        }
        for (int p = 0; p < processes; p++) {
            due.is(told + ": stock " + p, x.repairedStock(p, 0), repaired[p]);
        }
    }

    // ---- large stocks

    private void large(Chance chance) {
        int n = chance.between(2, 5);
        begin(chance, n, chance.oneOf(1, 3, 20, 1000));
        stocks = new int[n];
        for (int p = 0; p < n; p++) {
            stocks[p] = chance.oneOf(0, 1000, chance.between(0, 1000), chance.between(0, 20), chance.between(980, 1000));
            x.setStock(p, 0, stocks[p]);
        }
        PlainRepair repair = new PlainRepair(stocks, costs, grant, burn);
        int count = chance.between(1, 6);
        for (int r = 0; r < count; r++) {
            int subject = chance.oneOf(chance.below(n), chance.below(n), 8);
            int value = chance.oneOf(0, chance.between(0, 1000), chance.between(980, 1001));
            if (subject == 8) {
                value = Math.min(9999, chance.oneOf(value * n, chance.between(0, 1000 * n), value));
            }
            int relation = chance.oneOf(0, 0, 1, 1, 2);
            int low = relation == 0 ? -99999 : value;
            int high = relation == 1 ? 99999 : value;
            if (subject == 8) {
                repair.keepSum(low, high);
            } else {
                repair.keepStock(subject, low, high);
            }
            String text = (subject == 8 ? "*" : String.valueOf(subject)) + "a" + new String[] {"<=", ">=", "="}[relation]
                + value;
            told.append(' ').append(text);
            Bench.rule(x, text);
        }
        told.append(" stocks ").append(Arrays.toString(stocks));
        repair.find();
        best = repair.best;
        bestCost = (int) repair.cost;
        plan = new int[n * (n - 1) + 2 * n];
        compare();
    }
}
