import java.util.ArrayList;
import java.util.Arrays;
import java.util.List;
import java.util.NoSuchElementException;
import java.util.Random;

/** Small nets: all rows of numbers are listed, and what the document says of flows and demands is read off them. */
public final class RowsTest {
    private static final int NETS = 3000;
    private static int wrong;

    private final int corners;
    private final int[][] edges;
    private final CutsetWorks works = new CutsetWorks();
    private final List<int[]> rows = new ArrayList<>();

    private RowsTest(Random random) {
        corners = 2 + random.nextInt(4);
        edges = new int[random.nextInt(7)][];
        works.net(corners);
        for (int e = 0; e < edges.length; e++) {
            int from = random.nextInt(corners);
            int to = (from + 1 + random.nextInt(corners - 1)) % corners;
            int most = random.nextInt(4);
            int least = random.nextInt(4) == 0 ? random.nextInt(most + 1) : 0;
            edges[e] = new int[] {from, to, least, most, random.nextInt(7) - 3};
            works.edge(0, from, to, least, most, edges[e][4]);
        }
        listRows(new int[edges.length], 0);
    }

    public static void main(String[] args) {
        Random random = new Random(5);
        for (int net = 0; net < NETS && wrong == 0; net++) {
            RowsTest test = new RowsTest(random);
            test.checkFlows(0, 1);
            test.checkFlows(test.corners - 1, 0);
            test.checkDemands(random);
        }
        System.out.println(wrong == 0 ? NETS + " nets are as their rows say" : "the rows say otherwise");
        if (wrong != 0) {
            System.exit(1);
        }
    }

    /** From the least row on. */
    private void listRows(int[] row, int edge) {
        if (edge == row.length) {
            rows.add(row.clone());
            return;
        }
        for (int number = edges[edge][2]; number <= edges[edge][3]; number++) {
            row[edge] = number;
            listRows(row, edge + 1);
        }
    }

    private int[] leaving(int[] row) {
        int[] sums = new int[corners];
        for (int e = 0; e < row.length; e++) {
            sums[edges[e][0]] += row[e];
            sums[edges[e][1]] -= row[e];
        }
        return sums;
    }

    private int cost(int[] row) {
        int sum = 0;
        for (int e = 0; e < row.length; e++) {
            sum += row[e] * edges[e][4];
        }
        return sum;
    }

    private void checkFlows(int source, int sink) {
        List<int[]> greatest = new ArrayList<>();
        int amount = Integer.MIN_VALUE;
        for (int[] row : rows) {
            int[] sums = leaving(row);
            int here = sums[source];
            sums[source] = 0;
            sums[sink] = 0;
            if (Arrays.equals(sums, new int[corners]) && here >= amount) {
                if (here > amount) {
                    greatest.clear();
                }
                amount = here;
                greatest.add(row);
            }
        }
        if (greatest.isEmpty()) {
            checkNone(source, sink);
            return;
        }
        int[] cheapest = greatest.get(0);
        for (int[] row : greatest) {
            cheapest = cost(row) < cost(cheapest) ? row : cheapest;
        }
        due("most", works.most(0, source, sink), amount);
        due("cost", works.cost(0, source, sink), cost(cheapest));
        int full = 0;
        int sum = 0;
        for (int e = 0; e < edges.length; e++) {
            boolean isFull = true;
            for (int[] row : greatest) {
                isFull &= row[e] == edges[e][3];
            }
            due("flow", works.flow(0, source, sink, e), greatest.get(0)[e]);
            due("isFull", works.isFull(0, source, sink, e) ? 1 : 0, isFull ? 1 : 0);
            due("cheapest", works.cheapest(0, source, sink, e), cheapest[e]);
            full += greatest.get(0)[e] == edges[e][3] ? 1 : 0;
            sum += greatest.get(0)[e];
        }
        if (edges.length > 0 && (works.fullShare(0, source, sink) != (float) full / (float) edges.length
                || works.meanFlow(0, source, sink) != (double) sum / (double) edges.length)) {
            due("fullShare or meanFlow", 0, 1);
        }
        checkPrices(source, sink, cheapest);
        due("isSound", works.isSound() ? 1 : 0, 1);
    }

    private void checkNone(int source, int sink) {
        int set = works.crowd(0, source, sink);
        due("crowd has both or none", set >> source & 1, set >> sink & 1);
        int balance = 0;
        for (int[] edge : edges) {
            balance += (set >> edge[0] & 1) > (set >> edge[1] & 1) ? edge[2] : 0;
            balance -= (set >> edge[0] & 1) < (set >> edge[1] & 1) ? edge[3] : 0;
        }
        due("crowd proves it", balance > 0 ? 1 : 0, 1);
        try {
            works.most(0, source, sink);
            due("most throws", 0, 1);
        } catch (NoSuchElementException e) {
            return;
        }
    }

    /** Prices begin far too high, and fall to what the edges let them have; one that stays high has no greatest one. */
    private void checkPrices(int source, int sink, int[] cheapest) {
        long bound = 1000;
        long[] prices = new long[corners];
        Arrays.fill(prices, bound);
        prices[source] = 0;
        for (int pass = 0; pass < 1100; pass++) {
            for (int e = 0; e < edges.length; e++) {
                int[] edge = edges[e];
                if (cheapest[e] < edge[3]) {
                    prices[edge[1]] = Math.min(prices[edge[1]], prices[edge[0]] + edge[4]);
                }
                if (cheapest[e] > edge[2]) {
                    prices[edge[0]] = Math.min(prices[edge[0]], prices[edge[1]] - edge[4]);
                }
            }
        }
        for (int c = 0; c < corners; c++) {
            long got;
            try {
                got = works.price(0, source, sink, c);
            } catch (NoSuchElementException e) {
                got = bound;
            }
            due("price", got, prices[c] > 500 ? bound : prices[c]);
        }
    }

    private void checkDemands(Random random) {
        int[] supplies = random.nextBoolean() ? leaving(rows.get(random.nextInt(rows.size()))) : new int[corners];
        if (random.nextInt(3) == 0) {
            supplies[random.nextInt(corners)] += random.nextInt(3) - 1;
            supplies[random.nextInt(corners)] += random.nextInt(3) - 1;
        }
        for (int c = 0; c < corners; c++) {
            works.supply(0, c, supplies[c]);
        }
        int[] found = null;
        for (int[] row : rows) {
            found = found == null && Arrays.equals(leaving(row), supplies) ? row : found;
        }
        due("holds", works.holds(0) ? 1 : 0, found != null ? 1 : 0);
        for (int e = 0; e < edges.length && found != null; e++) {
            due("meets", works.meets(0, e), found[e]);
        }
        try {
            int set = works.breaks(0);
            due("breaks a set that is not empty", found == null && set > 0 ? 1 : 0, 1);
        } catch (NoSuchElementException e) {
            due("breaks throws", found != null ? 1 : 0, 1);
        }
    }

    private void due(String what, long got, long due) {
        if (got != due) {
            wrong++;
            System.out.println(what + " answered " + got + ", due is " + due + " with " + Arrays.deepToString(edges)
                    + " on " + corners);
        }
    }
}
