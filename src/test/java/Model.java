import java.util.ArrayList;
import java.util.Arrays;
import java.util.List;
import java.util.NoSuchElementException;

/**
 * What the document says, worked out in other ways than in CutsetWorks, without regard to speed: flows by the
 * conditions on all sets of corners, ways by trying all of them, pairings and tables by trying all of them, steps by a
 * net with a corner for each step. The tests compare both.
 */
final class Model {
    static final int FAR = 1_000_000_000;

    record Edge(int from, int to, int least, int most, int cost) {
        Edge within(int low, int high) {
            return new Edge(from, to, low, high, cost);
        }
    }

    static final class Net {
        final int corners;
        final List<Edge> edges = new ArrayList<>();
        final int[] supply;

        Net(int corners) {
            this.corners = corners;
            supply = new int[corners];
        }
    }

    private final List<Net> nets = new ArrayList<>();
    private final int[] liked = new int[8];
    private final List<Integer> wins = new ArrayList<>();
    private final int[][] games = new int[6][6];
    private int[][] tenths = new int[1][1];
    private final List<int[]> projects = new ArrayList<>();
    private final int[] toolCosts = new int[8];

    // nets

    int net(int corners) {
        check(corners >= 2 && corners <= 8);
        if (nets.size() == 4) {
            throw new IllegalStateException();
        }
        nets.add(new Net(corners));
        return nets.size() - 1;
    }

    int edge(int net, int from, int to, int least, int most, int cost) {
        Net n = find(net);
        ends(n, from, to);
        bounds(least, most, cost);
        if (n.edges.size() == 16) {
            throw new IllegalStateException();
        }
        n.edges.add(new Edge(from, to, least, most, cost));
        return n.edges.size() - 1;
    }

    int change(int net, int edge, int least, int most, int cost) {
        Net n = find(net);
        Edge old = edgeAt(n, edge);
        bounds(least, most, cost);
        n.edges.set(edge, new Edge(old.from, old.to, least, most, cost));
        return old.most;
    }

    int drop(int net, int edge) {
        Net n = find(net);
        edgeAt(n, edge);
        n.edges.remove(edge);
        return n.edges.size();
    }

    int edges(int net) {
        return find(net).edges.size();
    }

    int supply(int net, int corner, int amount) {
        Net n = find(net);
        place(corner >= 0 && corner < n.corners);
        check(amount >= -99 && amount <= 99);
        int old = n.supply[corner];
        n.supply[corner] = amount;
        return old;
    }

    // flows

    int most(int net, int source, int sink) {
        Net n = find(net);
        ends(n, source, sink);
        return amount(n.edges, n.corners, source, sink);
    }

    int flow(int net, int source, int sink, int edge) {
        Net n = find(net);
        edgeAt(n, edge);
        ends(n, source, sink);
        return leastRow(n.edges, supplies(n, source, sink, amount(n.edges, n.corners, source, sink)))[edge];
    }

    int crowd(int net, int source, int sink) {
        Net n = find(net);
        ends(n, source, sink);
        int found = crowdOf(n.edges, n.corners, source, sink);
        exists(found >= 0);
        return found;
    }

    int cut(int net, int source, int sink, boolean isFar) {
        Net n = find(net);
        ends(n, source, sink);
        int all = 0;
        int some = 0;
        all = ~all;
        for (int set : leastCuts(n, source, sink)) {
            all &= set;
            some |= set;
        }
        return isFar ? some : all;
    }

    int cutSum(int net, int source, int sink, int set) {
        Net n = find(net);
        ends(n, source, sink);
        check(set >= 0 && set < 1 << n.corners && in(set, source) && !in(set, sink));
        return sum(n.edges, set, true) - sum(n.edges, ~set, false);
    }

    int cuts(int net, int source, int sink) {
        Net n = find(net);
        ends(n, source, sink);
        return leastCuts(n, source, sink).size();
    }

    boolean isFull(int net, int source, int sink, int edge) {
        Net n = find(net);
        Edge e = edgeAt(n, edge);
        ends(n, source, sink);
        int[] supplies = supplies(n, source, sink, amount(n.edges, n.corners, source, sink));
        if (e.least == e.most) {
            return true;
        }
        List<Edge> less = new ArrayList<>(n.edges);
        less.set(edge, e.within(e.least, e.most - 1));
        return !isMet(less, supplies);
    }

    int rounds(int net, int source, int sink) {
        return allRounds(net, source, sink).size();
    }

    int roundAmount(int net, int source, int sink, int round) {
        List<int[]> all = allRounds(net, source, sink);
        exists(round >= 0 && round < all.size());
        return all.get(round)[0];
    }

    int roundSign(int net, int source, int sink, int round, int index) {
        List<int[]> all = allRounds(net, source, sink);
        exists(round >= 0 && round < all.size());
        exists(index >= 0 && index < all.get(round).length - 1);
        return all.get(round)[index + 1];
    }

    // costs

    int cost(int net, int source, int sink) {
        Net n = find(net);
        ends(n, source, sink);
        int[] row = cheapestRow(n, source, sink);
        int sum = 0;
        for (int e = 0; e < row.length; e++) {
            sum += row[e] * n.edges.get(e).cost;
        }
        return sum;
    }

    int cheapest(int net, int source, int sink, int edge) {
        Net n = find(net);
        edgeAt(n, edge);
        ends(n, source, sink);
        return cheapestRow(n, source, sink)[edge];
    }

    int price(int net, int source, int sink, int corner) {
        Net n = find(net);
        place(corner >= 0 && corner < n.corners);
        ends(n, source, sink);
        int[] row = cheapestRow(n, source, sink);
        int found = distances(n, row, 0)[source][corner];
        exists(found < FAR);
        return found;
    }

    // ways

    int edgeWays(int net, int source, int sink) {
        Net n = find(net);
        ends(n, source, sink);
        return fewestEdges(n, source, sink, 0);
    }

    int cornerWays(int net, int source, int sink) {
        Net n = find(net);
        ends(n, source, sink);
        int fewest = FAR;
        for (int gone = 0; gone < 1 << n.corners; gone++) {
            if (!in(gone, source) && !in(gone, sink)) {
                fewest = Math.min(fewest, Integer.bitCount(gone) + fewestEdges(n, source, sink, gone));
            }
        }
        return fewest;
    }

    int apart(int net, int source, int sink) {
        Net n = find(net);
        ends(n, source, sink);
        for (Edge e : n.edges) {
            if (e.most != 0 && e.from == source && e.to == sink) {
                throw new UnsupportedOperationException();
            }
        }
        int best = -1;
        for (int gone = 0; gone < 1 << n.corners; gone++) {
            if (!in(gone, source) && !in(gone, sink) && fewestEdges(n, source, sink, gone) == 0
                    && (best < 0 || Integer.bitCount(gone) < Integer.bitCount(best))) {
                best = gone;
            }
        }
        return best;
    }

    int wider(int net, int source, int sink, int edge) {
        Net n = find(net);
        Edge e = edgeAt(n, edge);
        ends(n, source, sink);
        List<Edge> other = new ArrayList<>(n.edges);
        other.set(edge, e.within(e.least, e.most + 1));
        return amount(other, n.corners, source, sink);
    }

    int without(int net, int source, int sink, int edge) {
        Net n = find(net);
        edgeAt(n, edge);
        ends(n, source, sink);
        List<Edge> other = new ArrayList<>(n.edges);
        other.remove(edge);
        return amount(other, n.corners, source, sink);
    }

    // demands

    boolean holds(int net) {
        Net n = find(net);
        return isMet(n.edges, n.supply);
    }

    int meets(int net, int edge) {
        Net n = find(net);
        edgeAt(n, edge);
        exists(isMet(n.edges, n.supply));
        return leastRow(n.edges, n.supply)[edge];
    }

    int breaks(int net) {
        Net n = find(net);
        for (int set = 1; set < 1 << n.corners; set++) {
            int supplies = 0;
            for (int c = 0; c < n.corners; c++) {
                supplies += in(set, c) ? n.supply[c] : 0;
            }
            if (supplies > sum(n.edges, set, true) - sum(n.edges, ~set, false)
                    || supplies < sum(n.edges, set, false) - sum(n.edges, ~set, true)) {
                return set;
            }
        }
        throw new NoSuchElementException();
    }

    // the tree

    int parent(int net, int corner) {
        Net n = find(net);
        place(corner >= 0 && corner < n.corners);
        exists(corner != 0);
        int[] parents = new int[n.corners];
        for (int c = 1; c < n.corners; c++) {
            int side = -1;
            int least = bothWays(n, c, parents[c]);
            for (int set = 0; set < 1 << n.corners; set++) {
                if (in(set, c) && !in(set, parents[c])
                        && sum(n.edges, set, true) + sum(n.edges, ~set, true) == least) {
                    side &= set;
                }
            }
            for (int later = c + 1; later < n.corners; later++) {
                if (in(side, later) && parents[later] == parents[c]) {
                    parents[later] = c;
                }
            }
        }
        return parents[corner];
    }

    int between(int net, int one, int other) {
        Net n = find(net);
        ends(n, one, other);
        return bothWays(n, one, other);
    }

    int inSteps(int net, int source, int sink, int steps) {
        Net n = find(net);
        ends(n, source, sink);
        check(steps >= 0 && steps <= 8);
        int[][] room = new int[n.corners * (steps + 1)][n.corners * (steps + 1)];
        for (int step = 0; step < steps; step++) {
            for (int c = 0; c < n.corners; c++) {
                room[step * n.corners + c][(step + 1) * n.corners + c] = FAR;
            }
            for (Edge e : n.edges) {
                room[step * n.corners + e.from][(step + 1) * n.corners + e.to] += e.most;
            }
        }
        return greatest(room, source, steps * n.corners + sink);
    }

    // pairs

    int likes(int left, int set) {
        place(left >= 0 && left < 8);
        check(set >= 0 && set < 256);
        int old = liked[left];
        liked[left] = set;
        return old;
    }

    int pairs() {
        int many = 0;
        for (int right : pairing()) {
            many += right < 8 ? 1 : 0;
        }
        return many;
    }

    int pairOf(int left) {
        place(left >= 0 && left < 8);
        int right = pairing()[left];
        exists(right < 8);
        return right;
    }

    int cover(boolean isLeft) {
        int bestLeft = 255;
        int bestRight = 255;
        for (int left = 0; left < 256; left++) {
            for (int right = 0; right < 256; right++) {
                int size = Integer.bitCount(left) + Integer.bitCount(right);
                if (size < Integer.bitCount(bestLeft) + Integer.bitCount(bestRight) && isCover(left, right)) {
                    bestLeft = left;
                    bestRight = right;
                }
            }
        }
        return isLeft ? bestLeft : bestRight;
    }

    private boolean isCover(int left, int right) {
        for (int l = 0; l < 8; l++) {
            if (!in(left, l) && (liked[l] & ~right) != 0) {
                return false;
            }
        }
        return true;
    }

    int crowdOfLeft() {
        exists(pairs() < 8);
        int found = 255;
        for (int set = 0; set < 256; set++) {
            int together = 0;
            for (int l = 0; l < 8; l++) {
                together |= in(set, l) ? liked[l] : 0;
            }
            // as many more as there are left ones that stay alone
            if (Integer.bitCount(set) - Integer.bitCount(together) == 8 - pairs()) {
                found &= set;
            }
        }
        return found;
    }

    private int[] pairing() {
        int[][] best = new int[9][256];
        for (int left = 7; left >= 0; left--) {
            for (int free = 0; free < 256; free++) {
                best[left][free] = best[left + 1][free];
                for (int right = 0; right < 8; right++) {
                    if (in(free & liked[left], right)) {
                        best[left][free] =
                                Math.max(best[left][free], 1 + best[left + 1][free & ~(1 << right)]);
                    }
                }
            }
        }
        int[] row = new int[8];
        int free = 255;
        for (int left = 0; left < 8; left++) {
            row[left] = 8;
            for (int right = 7; right >= 0; right--) {
                if (in(free & liked[left], right)
                        && 1 + best[left + 1][free & ~(1 << right)] == best[left][free]) {
                    row[left] = right;
                }
            }
            free &= row[left] == 8 ? free : ~(1 << row[left]);
        }
        return row;
    }

    // a league

    int team(int won) {
        check(won >= 0 && won <= 99);
        if (wins.size() == 6) {
            throw new IllegalStateException();
        }
        wins.add(won);
        return wins.size() - 1;
    }

    int games(int one, int other, int many) {
        place(one >= 0 && one < wins.size() && other >= 0 && other < wins.size());
        check(one != other && many >= 0 && many <= 9);
        int old = games[one][other];
        games[one][other] = many;
        games[other][one] = many;
        return old;
    }

    boolean canWin(int team) {
        place(team >= 0 && team < wins.size());
        int reached = reach(team);
        int[][] room = new int[2 + 6 + 36][2 + 6 + 36];
        int wanted = 0;
        for (int one = 0; one < wins.size(); one++) {
            if (one == team) {
                continue;
            }
            if (wins.get(one) > reached) {
                return false;
            }
            room[2 + one][1] = reached - wins.get(one);
            for (int other = one + 1; other < wins.size(); other++) {
                if (other != team) {
                    int pair = 8 + one * 6 + other;
                    room[0][pair] = games[one][other];
                    room[pair][2 + one] = FAR;
                    room[pair][2 + other] = FAR;
                    wanted += games[one][other];
                }
            }
        }
        return greatest(room, 0, 1) == wanted;
    }

    int against(int team) {
        exists(!canWin(team));
        for (int set = 1; set < 1 << wins.size(); set++) {
            int sum = 0;
            for (int one = 0; one < wins.size(); one++) {
                sum += in(set, one) ? wins.get(one) : 0;
                for (int other = 0; other < one; other++) {
                    sum += in(set, one) && in(set, other) ? games[one][other] : 0;
                }
            }
            if (!in(set, team) && sum > Integer.bitCount(set) * reach(team)) {
                return set;
            }
        }
        throw new AssertionError("no set proves it");
    }

    private int reach(int team) {
        int reached = wins.get(team);
        for (int other = 0; other < wins.size(); other++) {
            reached += games[team][other];
        }
        return reached;
    }

    // a table

    int table(int rows, int columns) {
        check(rows >= 1 && rows <= 4 && columns >= 1 && columns <= 4);
        tenths = new int[rows][columns];
        return rows * columns;
    }

    int tell(int row, int column, int number) {
        place(row >= 0 && row < tenths.length && column >= 0 && column < tenths[0].length);
        check(number >= 0 && number <= 999);
        int old = tenths[row][column];
        tenths[row][column] = number;
        return old;
    }

    int rounded(int row, int column) {
        place(row >= 0 && row < tenths.length && column >= 0 && column < tenths[0].length);
        int[][] whole = new int[tenths.length][tenths[0].length];
        if (!round(whole, 0)) {
            throw new AssertionError("no table is right");
        }
        return whole[row][column];
    }

    private boolean round(int[][] whole, int place) {
        int columns = tenths[0].length;
        if (place > 0 && place % columns == 0
                && !isNear(Arrays.stream(whole[place / columns - 1]).sum(),
                        Arrays.stream(tenths[place / columns - 1]).sum())) {
            return false;
        }
        if (place == tenths.length * columns) {
            return areColumnsNear(whole);
        }
        int exact = tenths[place / columns][place % columns];
        whole[place / columns][place % columns] = exact / 10;
        if (round(whole, place + 1)) {
            return true;
        }
        if (exact % 10 == 0) {
            return false;
        }
        whole[place / columns][place % columns] = exact / 10 + 1;
        return round(whole, place + 1);
    }

    private boolean areColumnsNear(int[][] whole) {
        int sum = 0;
        int exactSum = 0;
        for (int column = 0; column < tenths[0].length; column++) {
            int here = 0;
            int exact = 0;
            for (int row = 0; row < tenths.length; row++) {
                here += whole[row][column];
                exact += tenths[row][column];
            }
            if (!isNear(here, exact)) {
                return false;
            }
            sum += here;
            exactSum += exact;
        }
        return isNear(sum, exactSum);
    }

    private static boolean isNear(int whole, int exact) {
        return Math.abs(whole * 10 - exact) < 10;
    }

    // projects

    int project(int gain, int tools) {
        check(gain >= 0 && gain <= 99 && tools >= 0 && tools <= 255);
        if (projects.size() == 8) {
            throw new IllegalStateException();
        }
        projects.add(new int[] {gain, tools});
        return projects.size() - 1;
    }

    int toolCost(int tool, int cost) {
        place(tool >= 0 && tool < 8);
        check(cost >= 0 && cost <= 99);
        int old = toolCosts[tool];
        toolCosts[tool] = cost;
        return old;
    }

    int best() {
        int best = 0;
        for (int set = 0; set < 1 << projects.size(); set++) {
            best = Math.max(best, worth(set));
        }
        return best;
    }

    int chosen(boolean isAll) {
        int all = -1;
        int some = 0;
        for (int set = 0; set < 1 << projects.size(); set++) {
            if (worth(set) == best()) {
                all &= set;
                some |= set;
            }
        }
        return isAll ? some : all;
    }

    private int worth(int set) {
        int sum = 0;
        boolean[] paid = new boolean[8];
        for (int p = 0; p < projects.size(); p++) {
            for (int tool = 0; in(set, p) && tool < 8; tool++) {
                if (in(projects.get(p)[1], tool) && !paid[tool]) {
                    paid[tool] = true;
                    sum -= toolCosts[tool];
                }
            }
            sum += in(set, p) ? projects.get(p)[0] : 0;
        }
        return sum;
    }

    // sums

    long checksum(int net) {
        Net n = find(net);
        long sum = 7;
        for (Edge e : n.edges) {
            for (int part : new int[] {e.from, e.to, e.least, e.most, e.cost}) {
                sum = 31 * sum + part;
            }
        }
        for (int supplied : n.supply) {
            sum = 31 * sum + supplied;
        }
        return sum;
    }

    float fullShare(int net, int source, int sink) {
        Net n = find(net);
        ends(n, source, sink);
        int[] row = leastRow(n.edges, supplies(n, source, sink, amount(n.edges, n.corners, source, sink)));
        exists(row.length > 0);
        int full = 0;
        for (int e = 0; e < row.length; e++) {
            full += row[e] == n.edges.get(e).most ? 1 : 0;
        }
        return (float) full / (float) row.length;
    }

    double meanFlow(int net, int source, int sink) {
        Net n = find(net);
        ends(n, source, sink);
        int[] row = leastRow(n.edges, supplies(n, source, sink, amount(n.edges, n.corners, source, sink)));
        exists(row.length > 0);
        return (double) Arrays.stream(row).sum() / (double) row.length;
    }

    boolean isSound() {
        return true;
    }

    // below: what several of them need

    private static void check(boolean isAsTold) {
        if (!isAsTold) {
            throw new IllegalArgumentException();
        }
    }

    private static void place(boolean isThere) {
        if (!isThere) {
            throw new IndexOutOfBoundsException();
        }
    }

    private static void exists(boolean isThere) {
        if (!isThere) {
            throw new NoSuchElementException();
        }
    }

    private Net find(int net) {
        place(net >= 0 && net < nets.size());
        return nets.get(net);
    }

    private static Edge edgeAt(Net n, int edge) {
        place(edge >= 0 && edge < n.edges.size());
        return n.edges.get(edge);
    }

    private static void ends(Net n, int one, int other) {
        check(one >= 0 && one < n.corners && other >= 0 && other < n.corners && one != other);
    }

    private static void bounds(int least, int most, int cost) {
        check(least >= 0 && least <= 99 && most >= 0 && most <= 99 && most >= least && cost >= -20 && cost <= 20);
    }

    static boolean in(int set, int number) {
        return (set & 1 << number) != 0;
    }

    /** The sum of the mosts, or of the leasts, of the edges that lead from a set. */
    private static int sum(List<Edge> edges, int set, boolean isMost) {
        int sum = 0;
        for (Edge e : edges) {
            if (in(set, e.from) && !in(set, e.to)) {
                sum += isMost ? e.most : e.least;
            }
        }
        return sum;
    }

    private static int crowdOf(List<Edge> edges, int corners, int source, int sink) {
        for (int set = 0; set < 1 << corners; set++) {
            if (in(set, source) == in(set, sink) && sum(edges, set, false) > sum(edges, ~set, true)) {
                return set;
            }
        }
        return -1;
    }

    private static int amount(List<Edge> edges, int corners, int source, int sink) {
        exists(crowdOf(edges, corners, source, sink) < 0);
        int least = FAR;
        for (int set = 0; set < 1 << corners; set++) {
            if (in(set, source) && !in(set, sink)) {
                least = Math.min(least, sum(edges, set, true) - sum(edges, ~set, false));
            }
        }
        return least;
    }

    private List<Integer> leastCuts(Net n, int source, int sink) {
        int least = amount(n.edges, n.corners, source, sink);
        List<Integer> found = new ArrayList<>();
        for (int set = 0; set < 1 << n.corners; set++) {
            if (in(set, source) && !in(set, sink)
                    && sum(n.edges, set, true) - sum(n.edges, ~set, false) == least) {
                found.add(set);
            }
        }
        return found;
    }

    private static int[] supplies(Net n, int source, int sink, int amount) {
        int[] supplies = new int[n.corners];
        supplies[source] = amount;
        supplies[sink] = -amount;
        return supplies;
    }

    private static boolean isMet(List<Edge> edges, int[] supplies) {
        if (Arrays.stream(supplies).sum() != 0) {
            return false;
        }
        for (int set = 1; set < 1 << supplies.length; set++) {
            int wanted = 0;
            for (int c = 0; c < supplies.length; c++) {
                wanted += in(set, c) ? supplies[c] : 0;
            }
            if (wanted > sum(edges, set, true) - sum(edges, ~set, false)) {
                return false;
            }
        }
        return true;
    }

    private static int[] leastRow(List<Edge> told, int[] supplies) {
        List<Edge> edges = new ArrayList<>(told);
        int[] row = new int[edges.size()];
        for (int e = 0; e < row.length; e++) {
            Edge edge = edges.get(e);
            int low = edge.least;
            int high = edge.most;
            while (low < high) {
                int middle = (low + high) / 2;
                edges.set(e, edge.within(edge.least, middle));
                if (isMet(edges, supplies)) {
                    high = middle;
                } else {
                    low = middle + 1;
                }
            }
            row[e] = low;
            edges.set(e, edge.within(low, low));
        }
        return row;
    }

    /** Each row: the amount, and behind it the signs. */
    private List<int[]> allRounds(int net, int source, int sink) {
        Net n = find(net);
        ends(n, source, sink);
        for (Edge e : n.edges) {
            if (e.least != 0) {
                throw new UnsupportedOperationException();
            }
        }
        int[] row = new int[n.edges.size()];
        List<int[]> all = new ArrayList<>();
        for (int[] way = fewest(n, row, source, sink); way != null; way = fewest(n, row, source, sink)) {
            int amount = FAR;
            for (int sign : way) {
                amount = Math.min(amount, room(n, row, sign));
            }
            int[] round = new int[way.length + 1];
            round[0] = amount;
            for (int index = 0; index < way.length; index++) {
                round[index + 1] = way[index];
                row[way[index] % 16] += way[index] < 16 ? amount : -amount;
            }
            all.add(round);
        }
        return all;
    }

    private static int room(Net n, int[] row, int sign) {
        return sign < 16 ? n.edges.get(sign).most - row[sign] : row[sign - 16];
    }

    private static int[] fewest(Net n, int[] row, int source, int sink) {
        for (int length = 1; length < n.corners; length++) {
            int[] way = new int[length];
            if (goOn(n, row, way, 0, source, sink, 1 << source)) {
                return way;
            }
        }
        return null;
    }

    /** Tries signs from the least on, so the first way that it finds is the least one. */
    private static boolean goOn(Net n, int[] row, int[] way, int index, int at, int sink, int been) {
        if (index == way.length) {
            return at == sink;
        }
        for (int sign = 0; sign < 32; sign++) {
            int e = sign % 16;
            if (e < row.length && room(n, row, sign) > 0) {
                Edge edge = n.edges.get(e);
                int next = sign < 16 ? edge.to : edge.from;
                if ((sign < 16 ? edge.from : edge.to) == at && !in(been, next)) {
                    way[index] = sign;
                    if (goOn(n, row, way, index + 1, next, sink, been | 1 << next)) {
                        return true;
                    }
                }
            }
        }
        return false;
    }

    /** Least costs of ways along what is left, by edges from the first one on. */
    private static int[][] distances(Net n, int[] row, int first) {
        int[][] found = new int[n.corners][n.corners];
        for (int[] line : found) {
            Arrays.fill(line, FAR);
        }
        for (int c = 0; c < n.corners; c++) {
            found[c][c] = 0;
        }
        for (int e = first; e < row.length; e++) {
            Edge edge = n.edges.get(e);
            if (row[e] < edge.most) {
                found[edge.from][edge.to] = Math.min(found[edge.from][edge.to], edge.cost);
            }
            if (row[e] > edge.least) {
                found[edge.to][edge.from] = Math.min(found[edge.to][edge.from], -edge.cost);
            }
        }
        for (int m = 0; m < n.corners; m++) {
            for (int a = 0; a < n.corners; a++) {
                for (int b = 0; b < n.corners; b++) {
                    if (found[a][m] < FAR && found[m][b] < FAR) {
                        found[a][b] = Math.min(found[a][b], found[a][m] + found[m][b]);
                    }
                }
            }
        }
        return found;
    }

    /** Turns rings of signs, one after the other, while one of them costs less than nothing; then those that make
     * the first edge less that can be less, and cost nothing. */
    private static int[] cheapestRow(Net n, int source, int sink) {
        int[] row = leastRow(n.edges, supplies(n, source, sink, amount(n.edges, n.corners, source, sink)));
        boolean goesOn = true;
        while (goesOn) {
            goesOn = false;
            for (int corner = 0; corner < n.corners && !goesOn; corner++) {
                List<Integer> ring = new ArrayList<>();
                if (ring(n, row, ring, corner, corner, 1 << corner, 0, 0, false)) {
                    turn(n, row, ring);
                    goesOn = true;
                }
            }
        }
        for (int e = 0; e < row.length; e++) {
            Edge edge = n.edges.get(e);
            while (row[e] > edge.least) {
                List<Integer> ring = new ArrayList<>();
                ring.add(e + 16);
                if (!ring(n, row, ring, edge.to, edge.from, 1 << edge.from, -edge.cost, e + 1, true)) {
                    break;
                }
                turn(n, row, ring);
            }
        }
        return row;
    }

    /** Looks for a ring that costs less than nothing, or just nothing, along edges from first on. */
    private static boolean ring(Net n, int[] row, List<Integer> signs, int home, int at, int been, int cost,
            int first, boolean isNothing) {
        for (int sign = 0; sign < 32; sign++) {
            int e = sign % 16;
            if (e < first || e >= row.length) {
                continue;
            }
            Edge edge = n.edges.get(e);
            boolean isForward = sign < 16;
            int room = isForward ? edge.most - row[e] : row[e] - edge.least;
            int next = isForward ? edge.to : edge.from;
            if (room <= 0 || (isForward ? edge.from : edge.to) != at || in(been, next) && next != home) {
                continue;
            }
            int sum = cost + (isForward ? edge.cost : -edge.cost);
            signs.add(sign);
            if (next == home && (isNothing ? sum == 0 : sum < 0)) {
                return true;
            }
            if (next != home && ring(n, row, signs, home, next, been | 1 << next, sum, first, isNothing)) {
                return true;
            }
            signs.remove(signs.size() - 1);
        }
        return false;
    }

    private static void turn(Net n, int[] row, List<Integer> signs) {
        int amount = FAR;
        for (int sign : signs) {
            Edge edge = n.edges.get(sign % 16);
            amount = Math.min(amount, sign < 16 ? edge.most - row[sign] : row[sign - 16] - edge.least);
        }
        for (int sign : signs) {
            row[sign % 16] += sign < 16 ? amount : -amount;
        }
    }

    /** The fewest edges without which there is no way in what is left when some corners are gone. */
    private static int fewestEdges(Net n, int source, int sink, int gone) {
        int fewest = FAR;
        for (int set = 0; set < 1 << n.corners; set++) {
            if (in(set, source) && !in(set, sink) && (set & gone) == 0) {
                int many = 0;
                for (Edge e : n.edges) {
                    many += e.most != 0 && in(set, e.from) && !in(set | gone, e.to) ? 1 : 0;
                }
                fewest = Math.min(fewest, many);
            }
        }
        return fewest;
    }

    private static int bothWays(Net n, int one, int other) {
        int[][] room = new int[n.corners][n.corners];
        for (Edge e : n.edges) {
            room[e.from][e.to] += e.most;
            room[e.to][e.from] += e.most;
        }
        return greatest(room, one, other);
    }

    private static int greatest(int[][] room, int source, int sink) {
        int sum = 0;
        while (true) {
            int[] from = new int[room.length];
            Arrays.fill(from, -1);
            from[source] = source;
            int[] queue = new int[room.length];
            int end = 0;
            queue[end++] = source;
            for (int begin = 0; begin < end; begin++) {
                for (int next = 0; next < room.length; next++) {
                    if (from[next] < 0 && room[queue[begin]][next] > 0) {
                        from[next] = queue[begin];
                        queue[end++] = next;
                    }
                }
            }
            if (from[sink] < 0) {
                return sum;
            }
            int amount = FAR;
            for (int at = sink; at != source; at = from[at]) {
                amount = Math.min(amount, room[from[at]][at]);
            }
            for (int at = sink; at != source; at = from[at]) {
                room[from[at]][at] -= amount;
                room[at][from[at]] += amount;
            }
            sum += amount;
        }
    }
}
