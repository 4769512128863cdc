import java.util.ArrayList;
import java.util.List;

/**
 * The best repair of one stock, found in another way than the program does: the least cost first, then each amount in
 * the order of the document as small as that cost lets it be, by trying bounds.
 */
final class PlainRepair {
    private static final int STOCK_LIMIT = 1000;
    private static final int MUCH = 20000;

    private final int processes;
    private final int[] stocks;
    private final int[] lows;
    private final int[] highs;
    private int sumLow;
    private int sumHigh = MUCH;
    private final List<int[]> amounts = new ArrayList<>();
    private final int[] bounds;

    /** The amounts of the plan, or null if there is no repair. */
    int[] best;
    long cost;

    PlainRepair(int[] stocks, int[][] moveCosts, int grant, int burn) {
        this.processes = stocks.length;
        this.stocks = stocks.clone();
        this.lows = new int[processes];
        this.highs = new int[processes];
        for (int p = 0; p < processes; p++) {
            highs[p] = STOCK_LIMIT;
        }
        for (int p = 0; p < processes; p++) {
            for (int q = 0; q < processes; q++) {
                if (p != q) {
                    amounts.add(new int[] {p, q, moveCosts[p][q]});
                }
            }
        }
        for (int p = 0; p < processes; p++) {
            amounts.add(new int[] {processes, p, grant});
        }
        for (int p = 0; p < processes; p++) {
            amounts.add(new int[] {p, processes, burn});
        }
        bounds = new int[amounts.size()];
    }

    void keepStock(int process, int low, int high) {
        lows[process] = Math.max(lows[process], low);
        highs[process] = Math.min(highs[process], high);
    }

    void keepSum(int low, int high) {
        sumLow = Math.max(sumLow, low);
        sumHigh = Math.min(sumHigh, high);
    }

    void find() {
        java.util.Arrays.fill(bounds, MUCH);
        cost = leastCost();
        if (cost < 0) {
            return;
        }
        for (int a = 0; a < bounds.length; a++) {
            int below = -1;
            int enough = lastFlow[a];
            while (enough - below > 1) {
                bounds[a] = (below + enough) / 2;
                if (leastCost() == cost) {
                    enough = bounds[a];
                } else {
                    below = bounds[a];
                }
            }
            bounds[a] = enough;
            if (leastCost() != cost) {
                throw new IllegalStateException("the bound that was enough is not");
            }
        }
        best = bounds.clone();
    }

    // ---- the least cost under the bounds, as a flow with lower bounds, by cheapest ways from a source to a drain

    private int[] lastFlow;
    private List<int[]> arcs;
    private List<Long> dear;

    /**
     * Nodes: the processes, the outside, the state, a source, a drain. The source gives each process its stock, and
     * takes it from nobody: all of it ends at the drain, by the state or by being burnt.
     */
    private long leastCost() {
        arcs = new ArrayList<>();
        dear = new ArrayList<>();
        int outside = processes;
        int state = processes + 1;
        int source = processes + 2;
        int drain = processes + 3;
        for (int a = 0; a < bounds.length; a++) {
            int[] amount = amounts.get(a);
            lay(amount[0], amount[1], bounds[a], amount[2]);
        }
        int needed = 0;
        for (int p = 0; p < processes; p++) {
            if (lows[p] > highs[p]) {
                return -1;
            }
            needed += layBetween(p, state, lows[p], highs[p], source, drain);
            lay(source, p, stocks[p], 0);
            needed += stocks[p];
        }
        if (sumLow > sumHigh) {
            return -1;
        }
        needed += layBetween(state, outside, sumLow, sumHigh, source, drain);
        int all = 0;
        for (int stock : stocks) {
            all += stock;
        }
        lay(outside, drain, all, 0);
        long[] found = cheapestFlow(source, drain, processes + 4);
        if (found[0] != needed) {
            return -1;
        }
        lastFlow = new int[bounds.length];
        for (int a = 0; a < bounds.length; a++) {
            lastFlow[a] = arcs.get(2 * a + 1)[2];
        }
        return found[1];
    }

    private int layBetween(int from, int to, int low, int high, int source, int drain) {
        lay(from, to, high - low, 0);
        lay(from, drain, low, 0);
        lay(source, to, low, 0);
        return low;
    }

    private void lay(int from, int to, int room, long price) {
        arcs.add(new int[] {from, to, room});
        dear.add(price);
        arcs.add(new int[] {to, from, 0});
        dear.add(-price);
    }

    private long[] cheapestFlow(int source, int drain, int nodes) {
        long units = 0;
        long price = 0;
        while (true) {
            long[] distance = new long[nodes];
            int[] by = new int[nodes];
            java.util.Arrays.fill(distance, Long.MAX_VALUE / 4);
            java.util.Arrays.fill(by, -1);
            distance[source] = 0;
            boolean shorter = true;
            while (shorter) {
                shorter = false;
                for (int a = 0; a < arcs.size(); a++) {
                    int[] arc = arcs.get(a);
                    if (arc[2] > 0 && distance[arc[0]] < Long.MAX_VALUE / 4
                            && distance[arc[0]] + dear.get(a) < distance[arc[1]]) {
                        distance[arc[1]] = distance[arc[0]] + dear.get(a);
                        by[arc[1]] = a;
                        shorter = true;
                    }
                }
            }
            if (by[drain] < 0) {
                return new long[] {units, price};
            }
            int most = Integer.MAX_VALUE;
            for (int v = drain; v != source; v = arcs.get(by[v])[0]) {
                most = Math.min(most, arcs.get(by[v])[2]);
            }
            for (int v = drain; v != source; v = arcs.get(by[v])[0]) {
                arcs.get(by[v])[2] -= most;
                arcs.get(by[v] ^ 1)[2] += most;
            }
            units += most;
            price += most * distance[drain];
        }
    }
}
