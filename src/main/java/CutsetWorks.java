import java.util.NoSuchElementException;

/**
 * A works for nets through which things flow, and for what is a flow though it does not look so. What each call takes,
 * answers and throws stands in the document, as promises 1 to 51.
 */
public final class CutsetWorks {
    private static final int MOST_NETS = 4;
    private static final int LEAST_CORNERS = 2;
    private static final int MOST_CORNERS = 8;
    private static final int MOST_EDGES = 16;
    private static final int MOST_NUMBER = 99;
    private static final int MOST_COST = 20;
    private static final int MOST_STEPS = 8;
    private static final int NONE = -1;

    private final Net[] nets;
    private int netCount;
    private final Streams streams;
    private final Cuts scan;
    private final Tree tree;
    private final Pairing pairing;
    private final League league;
    private final Table numbers;
    private final Projects projects;

    public CutsetWorks() {
        nets = new Net[MOST_NETS];
        streams = new Streams();
        scan = new Cuts();
        tree = new Tree();
        pairing = new Pairing();
        league = new League();
        numbers = new Table();
        projects = new Projects();
    }

    // Part 1, nets

    public int net(int corners) throws IllegalArgumentException, IllegalStateException {
        if (corners < LEAST_CORNERS || corners > MOST_CORNERS) {
            throw new IllegalArgumentException("a net has 2 to 8 corners");
        }
        if (netCount < 0 || netCount >= nets.length) {
            throw new IllegalStateException("there are 4 nets");
        }
        nets[netCount] = new Net(corners);
        netCount++;
        return netCount - 1;
    }

    public int edge(int net, int from, int to, int least, int most, int cost)
            throws IndexOutOfBoundsException, IllegalArgumentException, IllegalStateException {
        Net found = netAt(net);
        needEnds(found, from, to);
        needNumbers(least, most, cost);
        if (found.edges >= MOST_EDGES) {
            throw new IllegalStateException("there are 16 edges");
        }
        return found.put(from, to, least, most, cost);
    }

    public int change(int net, int edge, int least, int most, int cost)
            throws IndexOutOfBoundsException, IllegalArgumentException {
        Net found = netAt(net);
        needEdge(found, edge);
        needNumbers(least, most, cost);
        int before = found.most[edge];
        found.set(edge, least, most, cost);
        return before;
    }

    public int drop(int net, int edge) throws IndexOutOfBoundsException {
        Net found = netAt(net);
        needEdge(found, edge);
        found.takeOut(edge);
        return found.edges;
    }

    public int edges(int net) throws IndexOutOfBoundsException {
        return netAt(net).edges;
    }

    public int supply(int net, int corner, int amount) throws IndexOutOfBoundsException, IllegalArgumentException {
        Net found = netAt(net);
        needCorner(found, corner);
        if (amount < -MOST_NUMBER || amount > MOST_NUMBER) {
            throw new IllegalArgumentException("a supply is -99 to 99");
        }
        int before = found.supply[corner];
        found.supply[corner] = amount;
        return before;
    }

    // Part 2, flows and cuts

    public int most(int net, int source, int sink)
            throws IndexOutOfBoundsException, IllegalArgumentException, NoSuchElementException {
        Net found = netAt(net);
        needEnds(found, source, sink);
        return greatestAmount(found, source, sink);
    }

    public int flow(int net, int source, int sink, int edge)
            throws IndexOutOfBoundsException, IllegalArgumentException, NoSuchElementException {
        Net found = netAt(net);
        needEdge(found, edge);
        needEnds(found, source, sink);
        tellGreatest(found, source, sink);
        return streams.numberOf(edge);
    }

    public int crowd(int net, int source, int sink)
            throws IndexOutOfBoundsException, IllegalArgumentException, NoSuchElementException {
        Net found = netAt(net);
        needEnds(found, source, sink);
        int least = scan.leastCrowd(found, source, sink);
        if (least == NONE) {
            throw new NoSuchElementException("there is a flow");
        }
        return least;
    }

    public int cut(int net, int source, int sink, boolean isFar)
            throws IndexOutOfBoundsException, IllegalArgumentException, NoSuchElementException {
        Net found = netAt(net);
        needEnds(found, source, sink);
        greatestAmount(found, source, sink);
        scan.findLeast(found, source, sink);
        return isFar ? scan.far : scan.near;
    }

    public int cutSum(int net, int source, int sink, int set)
            throws IndexOutOfBoundsException, IllegalArgumentException {
        Net found = netAt(net);
        needEnds(found, source, sink);
        if (set < 0 || set >= 1 << found.corners || !hasOneOf(set, source, sink)) {
            throw new IllegalArgumentException("the set is no cut");
        }
        return scan.sumOfCut(found, set);
    }

    public int cuts(int net, int source, int sink)
            throws IndexOutOfBoundsException, IllegalArgumentException, NoSuchElementException {
        Net found = netAt(net);
        needEnds(found, source, sink);
        greatestAmount(found, source, sink);
        scan.findLeast(found, source, sink);
        return scan.many;
    }

    public boolean isFull(int net, int source, int sink, int edge)
            throws IndexOutOfBoundsException, IllegalArgumentException, NoSuchElementException {
        Net found = netAt(net);
        needEdge(found, edge);
        needEnds(found, source, sink);
        greatestAmount(found, source, sink);
        return streams.leastOf(edge) == found.most[edge];
    }

    public int rounds(int net, int source, int sink)
            throws IndexOutOfBoundsException, IllegalArgumentException, UnsupportedOperationException {
        Net found = netAt(net);
        needEnds(found, source, sink);
        needNoLeasts(found);
        return streams.goRounds(found, source, sink, NONE);
    }

    public int roundAmount(int net, int source, int sink, int round)
            throws IndexOutOfBoundsException, IllegalArgumentException, UnsupportedOperationException,
            NoSuchElementException {
        Net found = netAt(net);
        needEnds(found, source, sink);
        needNoLeasts(found);
        needRound(found, source, sink, round);
        return streams.amount;
    }

    public int roundSign(int net, int source, int sink, int round, int index)
            throws IndexOutOfBoundsException, IllegalArgumentException, UnsupportedOperationException,
            NoSuchElementException {
        Net found = netAt(net);
        needEnds(found, source, sink);
        needNoLeasts(found);
        needRound(found, source, sink, round);
        int sign = streams.signAt(index);
        if (sign == NONE) {
            throw new NoSuchElementException("there is no such place");
        }
        return sign;
    }

    // Part 3, costs

    public int cost(int net, int source, int sink)
            throws IndexOutOfBoundsException, IllegalArgumentException, NoSuchElementException {
        Net found = netAt(net);
        needEnds(found, source, sink);
        tellCheapest(found, source, sink);
        return streams.costOf(found.edges);
    }

    public int cheapest(int net, int source, int sink, int edge)
            throws IndexOutOfBoundsException, IllegalArgumentException, NoSuchElementException {
        Net found = netAt(net);
        needEdge(found, edge);
        needEnds(found, source, sink);
        tellCheapest(found, source, sink);
        return streams.numberOf(edge);
    }

    public int price(int net, int source, int sink, int corner)
            throws IndexOutOfBoundsException, IllegalArgumentException, NoSuchElementException {
        Net found = netAt(net);
        needCorner(found, corner);
        needEnds(found, source, sink);
        tellCheapest(found, source, sink);
        streams.setPrices(found.edges, source);
        if (!streams.hasPrice(corner)) {
            throw new NoSuchElementException("the price has no bound");
        }
        return streams.priceOf(corner);
    }

    // Part 4, ways apart

    public int edgeWays(int net, int source, int sink) throws IndexOutOfBoundsException, IllegalArgumentException {
        Net found = netAt(net);
        needEnds(found, source, sink);
        return streams.waysByEdges(found, source, sink);
    }

    public int cornerWays(int net, int source, int sink) throws IndexOutOfBoundsException, IllegalArgumentException {
        Net found = netAt(net);
        needEnds(found, source, sink);
        return streams.waysByCorners(found, source, sink);
    }

    public int apart(int net, int source, int sink)
            throws IndexOutOfBoundsException, IllegalArgumentException, UnsupportedOperationException {
        Net found = netAt(net);
        needEnds(found, source, sink);
        if (found.leadsStraight(source, sink)) {
            throw new UnsupportedOperationException("an edge leads from the source to the sink");
        }
        return scan.fewestApart(found, source, sink);
    }

    public int wider(int net, int source, int sink, int edge)
            throws IndexOutOfBoundsException, IllegalArgumentException, NoSuchElementException {
        Net found = netAt(net);
        needEdge(found, edge);
        needEnds(found, source, sink);
        streams.lay(found, source, sink);
        streams.setBounds(edge, found.least[edge], found.most[edge] + 1);
        needFlow(streams.fill());
        return streams.amount;
    }

    public int without(int net, int source, int sink, int edge)
            throws IndexOutOfBoundsException, IllegalArgumentException, NoSuchElementException {
        Net found = netAt(net);
        needEdge(found, edge);
        needEnds(found, source, sink);
        streams.lay(found, source, sink);
        // an edge that carries nothing is as good as none
        streams.setBounds(edge, 0, 0);
        needFlow(streams.fill());
        return streams.amount;
    }

    // Part 5, demands

    public boolean holds(int net) throws IndexOutOfBoundsException {
        return streams.meetDemands(netAt(net));
    }

    public int meets(int net, int edge) throws IndexOutOfBoundsException, NoSuchElementException {
        Net found = netAt(net);
        needEdge(found, edge);
        if (!streams.meetDemands(found)) {
            throw new NoSuchElementException("the demands cannot be met");
        }
        streams.tellLeastRow(found.edges);
        return streams.numberOf(edge);
    }

    public int breaks(int net) throws IndexOutOfBoundsException, NoSuchElementException {
        int least = scan.leastBreaker(netAt(net));
        if (least == NONE) {
            throw new NoSuchElementException("the demands can be met");
        }
        return least;
    }

    // Part 6, the tree

    public int parent(int net, int corner) throws IndexOutOfBoundsException, NoSuchElementException {
        Net found = netAt(net);
        needCorner(found, corner);
        if (corner == 0) {
            throw new NoSuchElementException("the corner 0 has no parent");
        }
        tree.measure(found, scan);
        tree.grow();
        return tree.parents[corner];
    }

    public int between(int net, int one, int other) throws IndexOutOfBoundsException, IllegalArgumentException {
        Net found = netAt(net);
        needEnds(found, one, other);
        tree.measure(found, scan);
        return tree.leastCut(one, other);
    }

    // Part 7, steps

    public int inSteps(int net, int source, int sink, int steps)
            throws IndexOutOfBoundsException, IllegalArgumentException {
        Net found = netAt(net);
        needEnds(found, source, sink);
        if (steps < 0 || steps > MOST_STEPS) {
            throw new IllegalArgumentException("the step is 0 to 8");
        }
        return streams.arriveBy(found, source, sink, steps);
    }

    // Part 8, pairs

    public int likes(int left, int set) throws IndexOutOfBoundsException, IllegalArgumentException {
        needLeft(left);
        if (set < 0 || set > Pairing.ALL) {
            throw new IllegalArgumentException("a set of right ones is 0 to 255");
        }
        int before = pairing.liked[left];
        pairing.liked[left] = set;
        return before;
    }

    public int pairs() {
        pairing.gather();
        return pairing.greatest(0, Pairing.ALL);
    }

    public int pairOf(int left) throws IndexOutOfBoundsException, NoSuchElementException {
        needLeft(left);
        pairing.gather();
        pairing.tellLeastRow();
        int right = pairing.row[left];
        if (right == Pairing.SIZE) {
            throw new NoSuchElementException("the left one is not paired");
        }
        return right;
    }

    public int cover(boolean isLeft) {
        pairing.gather();
        int left = pairing.leftOfCover();
        return isLeft ? left : pairing.likedByOthers(left);
    }

    public int crowdOfLeft() throws NoSuchElementException {
        pairing.gather();
        int set = pairing.leastCrowd();
        if (set == 0) {
            throw new NoSuchElementException("all left ones can be paired");
        }
        return set;
    }

    // Part 9, a league

    public int team(int wins) throws IllegalArgumentException, IllegalStateException {
        if (wins < 0 || wins > MOST_NUMBER) {
            throw new IllegalArgumentException("wins are 0 to 99");
        }
        if (league.teams >= League.SIZE) {
            throw new IllegalStateException("there are 6 teams");
        }
        return league.enter(wins);
    }

    public int games(int one, int other, int many) throws IndexOutOfBoundsException, IllegalArgumentException {
        needTeam(one);
        needTeam(other);
        if (one == other) {
            throw new IllegalArgumentException("both teams are the same");
        }
        if (many < 0 || many > League.MOST_GAMES) {
            throw new IllegalArgumentException("games are 0 to 9");
        }
        int before = league.gamesLeft(one, other);
        league.setGames(one, other, many);
        return before;
    }

    public boolean canWin(int team) throws IndexOutOfBoundsException {
        needTeam(team);
        return league.leastRivals(team) == 0;
    }

    public int against(int team) throws IndexOutOfBoundsException, NoSuchElementException {
        needTeam(team);
        int set = league.leastRivals(team);
        if (set == 0) {
            throw new NoSuchElementException("the team can win");
        }
        return set;
    }

    // Part 10, a table

    public int table(int rows, int columns) throws IllegalArgumentException {
        if (rows < 1 || rows > Table.SIZE || columns < 1 || columns > Table.SIZE) {
            throw new IllegalArgumentException("a table has 1 to 4 rows and columns");
        }
        numbers.start(rows, columns);
        return rows * columns;
    }

    public int tell(int row, int column, int tenths) throws IndexOutOfBoundsException, IllegalArgumentException {
        needPlace(row, column);
        if (tenths < 0 || tenths > Table.MOST_TENTHS) {
            throw new IllegalArgumentException("a number is 0 to 999 tenths");
        }
        int place = numbers.placeOf(row, column);
        int before = numbers.tenths[place];
        numbers.tenths[place] = tenths;
        return before;
    }

    public int rounded(int row, int column) throws IndexOutOfBoundsException {
        needPlace(row, column);
        numbers.roundBy(streams.flows);
        return numbers.whole[numbers.placeOf(row, column)];
    }

    // Part 11, projects

    public int project(int gain, int tools) throws IllegalArgumentException, IllegalStateException {
        if (gain < 0 || gain > MOST_NUMBER || tools < 0 || tools > Projects.ALL_TOOLS) {
            throw new IllegalArgumentException("a gain is 0 to 99, a set of tools 0 to 255");
        }
        if (projects.count >= Projects.SIZE) {
            throw new IllegalStateException("there are 8 projects");
        }
        return projects.put(gain, tools);
    }

    public int toolCost(int tool, int cost) throws IndexOutOfBoundsException, IllegalArgumentException {
        if (tool < 0 || tool >= Projects.SIZE) {
            throw new IndexOutOfBoundsException("a tool is 0 to 7");
        }
        if (cost < 0 || cost > MOST_NUMBER) {
            throw new IllegalArgumentException("a cost is 0 to 99");
        }
        int before = projects.prices[tool];
        projects.prices[tool] = cost;
        return before;
    }

    public int best() {
        projects.choose();
        return projects.greatest;
    }

    public int chosen(boolean isAll) {
        projects.choose();
        return isAll ? projects.inSome : projects.inAll;
    }

    // all parts

    public long checksum(int net) throws IndexOutOfBoundsException {
        return netAt(net).sumOfAll();
    }

    public float fullShare(int net, int source, int sink)
            throws IndexOutOfBoundsException, IllegalArgumentException, NoSuchElementException {
        Net found = netAt(net);
        needEnds(found, source, sink);
        needSomeEdge(found);
        tellGreatest(found, source, sink);
        int full = 0;
        for (int edge = 0; edge < found.edges; edge++) {
            full += streams.numberOf(edge) == found.most[edge] ? 1 : 0;
        }
        return (float) full / (float) found.edges;
    }

    public double meanFlow(int net, int source, int sink)
            throws IndexOutOfBoundsException, IllegalArgumentException, NoSuchElementException {
        Net found = netAt(net);
        needEnds(found, source, sink);
        needSomeEdge(found);
        tellGreatest(found, source, sink);
        int sum = 0;
        for (int edge = 0; edge < found.edges; edge++) {
            sum += streams.numberOf(edge);
        }
        return (double) sum / (double) found.edges;
    }

    public boolean isSound() {
        for (int number = 0; number < netCount && number < nets.length; number++) {
            Net found = nets[number];
            if (found != null && !(isFlowSound(found) && isTreeSound(found))) {
                return false;
            }
        }
        pairing.gather();
        pairing.tellLeastRow();
        numbers.roundBy(streams.flows);
        return pairing.isCovered() && numbers.isRounded();
    }

    private boolean isFlowSound(Net net) {
        int sink = net.corners - 1;
        streams.lay(net, 0, sink);
        if (!streams.fill()) {
            int set = scan.leastCrowd(net, 0, sink);
            return set != NONE && hasBit(set, 0) == hasBit(set, sink) && scan.isCrowd(net, set);
        }
        int amount = streams.amount;
        streams.tellLeastRow(net.edges);
        scan.findLeast(net, 0, sink);
        if (!isCutSound(net, scan.near, amount) || !isCutSound(net, scan.far, amount)) {
            return false;
        }
        streams.lay(net, 0, sink);
        if (!streams.fill()) {
            return false;
        }
        streams.cheapen();
        streams.tellLeastRow(net.edges);
        streams.setPrices(net.edges, 0);
        return streams.arePricesRight(net) && areRoundsSound(net, sink, amount);
    }

    private boolean isCutSound(Net net, int set, int amount) {
        return scan.sumOfCut(net, set) == amount && streams.fills(net, set);
    }

    private boolean areRoundsSound(Net net, int sink, int amount) {
        if (net.hasLeast()) {
            return true;
        }
        int many = streams.goRounds(net, 0, sink, NONE);
        return many <= net.corners * net.edges && streams.total == amount;
    }

    private boolean isTreeSound(Net net) {
        tree.measure(net, scan);
        tree.grow();
        for (int one = 0; one < net.corners; one++) {
            for (int other = one + 1; other < net.corners; other++) {
                if (tree.leastOnWay(one, other) != tree.leastCut(one, other)) {
                    return false;
                }
            }
        }
        return true;
    }

    private int greatestAmount(Net net, int source, int sink) {
        streams.lay(net, source, sink);
        needFlow(streams.fill());
        return streams.amount;
    }

    private void tellGreatest(Net net, int source, int sink) {
        streams.lay(net, source, sink);
        needFlow(streams.fill());
        streams.tellLeastRow(net.edges);
    }

    private void tellCheapest(Net net, int source, int sink) {
        streams.lay(net, source, sink);
        needFlow(streams.fill());
        streams.cheapen();
        streams.tellLeastRow(net.edges);
    }

    private Net netAt(int number) {
        Net found = number >= 0 && number < netCount && number < nets.length ? nets[number] : null;
        if (found == null) {
            throw new IndexOutOfBoundsException("there is no such net");
        }
        return found;
    }

    private static void needEdge(Net net, int edge) {
        if (edge < 0 || edge >= net.edges) {
            throw new IndexOutOfBoundsException("there is no such edge");
        }
    }

    private static void needCorner(Net net, int corner) {
        if (corner < 0 || corner >= net.corners) {
            throw new IndexOutOfBoundsException("there is no such corner");
        }
    }

    private static void needEnds(Net net, int one, int other) {
        if (one < 0 || one >= net.corners || other < 0 || other >= net.corners || one == other) {
            throw new IllegalArgumentException("these are not two corners");
        }
    }

    private static void needNumbers(int least, int most, int cost) {
        if (least < 0 || most > MOST_NUMBER || least > most || cost < -MOST_COST || cost > MOST_COST) {
            throw new IllegalArgumentException("a bound or the cost is not as told");
        }
    }

    private static void needFlow(boolean isThere) {
        if (!isThere) {
            throw new NoSuchElementException("there is no flow");
        }
    }

    private static void needNoLeasts(Net net) {
        if (net.hasLeast()) {
            throw new UnsupportedOperationException("a least is not 0");
        }
    }

    private void needRound(Net net, int source, int sink, int round) {
        if (round < 0 || round >= streams.goRounds(net, source, sink, round)) {
            throw new NoSuchElementException("there is no such round");
        }
    }

    private static void needSomeEdge(Net net) {
        if (net.edges <= 0) {
            throw new NoSuchElementException("there are no edges");
        }
    }

    private static void needLeft(int left) {
        if (left < 0 || left >= Pairing.SIZE) {
            throw new IndexOutOfBoundsException("a left one is 0 to 7");
        }
    }

    private void needTeam(int team) {
        if (team < 0 || team >= league.teams) {
            throw new IndexOutOfBoundsException("there is no such team");
        }
    }

    private void needPlace(int row, int column) {
        if (row < 0 || row >= numbers.rows || column < 0 || column >= numbers.columns) {
            throw new IndexOutOfBoundsException("there is no such row or column");
        }
    }

    private static boolean hasBit(int set, int number) {
        return (set >> number & 1) != 0;
    }

    private static boolean hasOneOf(int set, int inside, int outside) {
        return hasBit(set, inside) && !hasBit(set, outside);
    }

    /** A net as it was told: its edges by their numbers, and what its corners supply. */
    private static final class Net {
        private final int corners;
        private final int[] from;
        private final int[] to;
        private final int[] least;
        private final int[] most;
        private final int[] cost;
        private final int[] supply;
        private int edges;

        private Net(int corners) {
            this.corners = corners;
            from = new int[MOST_EDGES];
            to = new int[MOST_EDGES];
            least = new int[MOST_EDGES];
            most = new int[MOST_EDGES];
            cost = new int[MOST_EDGES];
            supply = new int[MOST_CORNERS];
        }

        int put(int begins, int ends, int atLeast, int atMost, int each) {
            if (edges < 0 || edges >= MOST_EDGES) {
                return NONE;
            }
            from[edges] = begins;
            to[edges] = ends;
            edges++;
            set(edges - 1, atLeast, atMost, each);
            return edges - 1;
        }

        void set(int edge, int atLeast, int atMost, int each) {
            if (edge >= 0 && edge < edges) {
                least[edge] = atLeast;
                most[edge] = atMost;
                cost[edge] = each;
            }
        }

        void takeOut(int edge) {
            if (edge < 0 || edge >= edges) {
                return;
            }
            for (int later = edge + 1; later < edges; later++) {
                from[later - 1] = from[later];
                to[later - 1] = to[later];
                set(later - 1, least[later], most[later], cost[later]);
            }
            edges--;
        }

        boolean hasLeast() {
            for (int edge = 0; edge < edges; edge++) {
                if (least[edge] != 0) {
                    return true;
                }
            }
            return false;
        }

        boolean leadsStraight(int source, int sink) {
            for (int edge = 0; edge < edges; edge++) {
                if (from[edge] == source && to[edge] == sink && most[edge] != 0) {
                    return true;
                }
            }
            return false;
        }

        /** The set of corners to which ways lead from one, through no corner of the set that is closed. */
        int reachFrom(int start, int closed) {
            int reached = 1 << start;
            for (int pass = 0; pass < corners; pass++) {
                int before = reached;
                for (int edge = 0; edge < edges; edge++) {
                    if (most[edge] != 0 && hasBit(reached, from[edge]) && !hasBit(closed, to[edge])) {
                        reached |= 1 << to[edge];
                    }
                }
                if (reached == before) {
                    return reached;
                }
            }
            return reached;
        }

        long sumOfAll() {
            long sum = 7;
            for (int edge = 0; edge < edges; edge++) {
                sum = sum * 31 + from[edge];
                sum = sum * 31 + to[edge];
                sum = sum * 31 + least[edge];
                sum = sum * 31 + most[edge];
                sum = sum * 31 + cost[edge];
            }
            for (int corner = 0; corner < corners; corner++) {
                sum = sum * 31 + supply[corner];
            }
            return sum;
        }
    }

    /**
     * Whole numbers on edges between nodes, each from its low to its high. A low and a high that are the same keep an
     * edge as it is: so it stays out of all ways.
     */
    private static final class Flows {
        private static final int NODES = 16;
        private static final int EDGES = 32;
        /** What is added to the number of an edge that is gone along backward. */
        private static final int BACK = EDGES;
        private static final int ALL = 1_000_000;
        private static final int FAR = 1_000_000_000;
        /** Far above the ways that any push, and the rings that any cheapening can need. */
        private static final int TRIES = 1_000_000;

        private int nodes;
        private int edges;
        private final int[] from;
        private final int[] to;
        private final int[] least;
        private final int[] most;
        private final int[] cost;
        private final int[] low;
        private final int[] high;
        private final int[] flow;
        private final int[] level;
        private final int[] via;
        private final int[] way;
        private int wayLength;

        private Flows() {
            from = new int[EDGES];
            to = new int[EDGES];
            least = new int[EDGES];
            most = new int[EDGES];
            cost = new int[EDGES];
            low = new int[EDGES];
            high = new int[EDGES];
            flow = new int[EDGES];
            level = new int[NODES];
            via = new int[NODES];
            way = new int[NODES];
        }

        void start(int many) {
            nodes = many < 0 ? 0 : many > NODES ? NODES : many;
            edges = 0;
            wayLength = 0;
        }

        void add(int begins, int ends, int atLeast, int atMost, int each) {
            if (edges < 0 || edges >= EDGES || !isNode(begins) || !isNode(ends)) {
                return;
            }
            from[edges] = begins;
            to[edges] = ends;
            cost[edges] = each;
            flow[edges] = 0;
            edges++;
            setBounds(edges - 1, atLeast, atMost);
        }

        /** The low is the least only when settle() has raised the edge to it. */
        void setBounds(int edge, int atLeast, int atMost) {
            if (isEdge(edge)) {
                least[edge] = atLeast;
                most[edge] = atMost;
                low[edge] = atLeast < 0 ? atLeast : 0;
                high[edge] = atMost;
            }
        }

        boolean isNode(int node) {
            return node >= 0 && node < nodes;
        }

        boolean isEdge(int edge) {
            return edge >= 0 && edge < edges;
        }

        int numberOf(int edge) {
            return isEdge(edge) ? flow[edge] : 0;
        }

        void keep(int edge) {
            if (isEdge(edge)) {
                low[edge] = flow[edge];
                high[edge] = flow[edge];
            }
        }

        void free(int edge) {
            if (isEdge(edge)) {
                low[edge] = least[edge];
                high[edge] = most[edge];
            }
        }

        /** Raises one edge after the other to its least, by rings; tells whether all of them got there. */
        boolean settle() {
            for (int edge = 0; edge < edges; edge++) {
                int missing = least[edge] - flow[edge];
                keep(edge);
                flow[edge] += push(to[edge], from[edge], missing);
                if (flow[edge] < least[edge]) {
                    return false;
                }
                free(edge);
            }
            return true;
        }

        /** Makes an edge's number the least that it can be, by rings, and keeps it. */
        void lower(int edge) {
            if (isEdge(edge)) {
                int spare = flow[edge] - low[edge];
                keep(edge);
                flow[edge] -= push(from[edge], to[edge], spare);
                keep(edge);
            }
        }

        int push(int source, int sink, int limit) {
            int sum = 0;
            for (int tries = 0; tries < TRIES && sum < limit; tries++) {
                int sent = send(source, sink, limit - sum);
                if (sent <= 0) {
                    return sum;
                }
                sum += sent;
            }
            return sum;
        }

        /** Puts as much as it lets on one way of fewest edges, of these on that with the least signs. */
        int send(int source, int sink, int limit) {
            if (limit <= 0 || source == sink || !isNode(source) || !isNode(sink)) {
                return 0;
            }
            setDistances(source, sink);
            wayLength = 0;
            if (level[source] == FAR) {
                return 0;
            }
            int at = source;
            for (int next = level[source] - 1; next >= 0 && wayLength < way.length; next--) {
                int sign = leastSign(at, next);
                if (sign == NONE) {
                    return 0;
                }
                way[wayLength] = sign;
                wayLength++;
                at = sign < BACK ? to[sign] : from[sign - BACK];
            }
            return shift(limit);
        }

        /** Tells of nodes how many edges lead on from them to the sink, up to those as far away as the source. */
        private void setDistances(int source, int sink) {
            for (int node = 0; node < nodes; node++) {
                level[node] = FAR;
            }
            level[sink] = 0;
            for (int step = 0; step < nodes && level[source] == FAR; step++) {
                for (int edge = 0; edge < edges; edge++) {
                    int begins = from[edge];
                    int ends = to[edge];
                    if (level[ends] == step && level[begins] == FAR && flow[edge] < high[edge]) {
                        level[begins] = step + 1;
                    } else if (level[begins] == step && level[ends] == FAR && flow[edge] > low[edge]) {
                        level[ends] = step + 1;
                    }
                }
            }
        }

        /** The least sign with which one comes from a node to one that is so many edges away from the sink. */
        private int leastSign(int at, int next) {
            int backward = NONE;
            for (int edge = 0; edge < edges; edge++) {
                if (from[edge] == at && level[to[edge]] == next && flow[edge] < high[edge]) {
                    return edge;
                }
                if (backward == NONE && to[edge] == at && level[from[edge]] == next && flow[edge] > low[edge]) {
                    backward = edge + BACK;
                }
            }
            return backward;
        }

        private int shift(int limit) {
            int amount = limit;
            for (int index = 0; index < wayLength; index++) {
                int sign = way[index];
                int spare = sign < BACK ? high[sign] - flow[sign] : flow[sign - BACK] - low[sign - BACK];
                amount = spare < amount ? spare : amount;
            }
            for (int index = 0; index < wayLength; index++) {
                int sign = way[index];
                if (sign < BACK) {
                    flow[sign] += amount;
                } else {
                    flow[sign - BACK] -= amount;
                }
            }
            return amount;
        }

        int signAt(int index) {
            return index >= 0 && index < wayLength ? way[index] : NONE;
        }

        /** Turns rings that cost less than nothing, until there is none. */
        void cheapen() {
            for (int tries = 0; tries < TRIES; tries++) {
                int node = lowerAll();
                if (node == NONE || !findRing(node) || shift(ALL) <= 0) {
                    return;
                }
            }
        }

        /** A node whose costs still fall after as many passes as there are nodes: a ring makes them fall. */
        private int lowerAll() {
            for (int node = 0; node < nodes; node++) {
                level[node] = 0;
                via[node] = NONE;
            }
            int last = NONE;
            for (int pass = 0; pass < nodes; pass++) {
                last = relax();
                if (last == NONE) {
                    return NONE;
                }
            }
            return last;
        }

        private int relax() {
            int last = NONE;
            for (int edge = 0; edge < edges; edge++) {
                int begins = from[edge];
                int ends = to[edge];
                if (flow[edge] < high[edge] && level[begins] < FAR && level[begins] + cost[edge] < level[ends]) {
                    level[ends] = level[begins] + cost[edge];
                    via[ends] = edge;
                    last = ends;
                }
                if (flow[edge] > low[edge] && level[ends] < FAR && level[ends] - cost[edge] < level[begins]) {
                    level[begins] = level[ends] - cost[edge];
                    via[begins] = edge + BACK;
                    last = begins;
                }
            }
            return last;
        }

        private boolean findRing(int node) {
            int at = node;
            for (int step = 0; step < nodes && at != NONE; step++) {
                at = cameFrom(at);
            }
            int first = at;
            wayLength = 0;
            while (at != NONE && wayLength < way.length) {
                way[wayLength] = via[at];
                wayLength++;
                at = cameFrom(at);
                if (at == first) {
                    return at != NONE;
                }
            }
            return false;
        }

        private int cameFrom(int node) {
            int sign = via[node];
            if (sign == NONE) {
                return NONE;
            }
            return sign < BACK ? from[sign] : to[sign - BACK];
        }

        /** Behind cheapen(): an edge along which costs differ has the same number in all that is as cheap. */
        void keepCheap() {
            for (int edge = 0; edge < edges; edge++) {
                if (level[from[edge]] + cost[edge] != level[to[edge]]) {
                    keep(edge);
                }
            }
        }

        void setLevelsFrom(int source) {
            for (int node = 0; node < nodes; node++) {
                level[node] = FAR;
            }
            if (isNode(source)) {
                level[source] = 0;
            }
            for (int pass = 0; pass < nodes; pass++) {
                if (relax() == NONE) {
                    return;
                }
            }
        }

        int levelOf(int node) {
            return isNode(node) ? level[node] : FAR;
        }

        int sumOfCosts(int many) {
            int sum = 0;
            for (int edge = 0; edge < many && edge < edges; edge++) {
                sum += flow[edge] * cost[edge];
            }
            return sum;
        }
    }

    /** What is asked of one net, as flows: the edges of the net come first, by their numbers. */
    private static final class Streams {
        private final Flows flows;
        private int source;
        private int sink;
        private int back;
        private int amount;
        private int total;

        private Streams() {
            flows = new Flows();
        }

        /** An edge back from the sink, without bounds, lets the amount be what it will until fill() raises it. */
        void lay(Net net, int begins, int ends) {
            source = begins;
            sink = ends;
            flows.start(net.corners);
            addEdges(net);
            back = net.edges;
            flows.add(sink, source, -Flows.ALL, Flows.ALL, 0);
        }

        private void addEdges(Net net) {
            for (int edge = 0; edge < net.edges; edge++) {
                flows.add(net.from[edge], net.to[edge], net.least[edge], net.most[edge], net.cost[edge]);
            }
        }

        void setBounds(int edge, int least, int most) {
            flows.setBounds(edge, least, most);
        }

        boolean fill() {
            if (!flows.settle()) {
                return false;
            }
            flows.keep(back);
            amount = flows.numberOf(back) + flows.push(source, sink, Flows.ALL);
            return true;
        }

        int numberOf(int edge) {
            return flows.numberOf(edge);
        }

        int leastOf(int edge) {
            flows.lower(edge);
            return flows.numberOf(edge);
        }

        void tellLeastRow(int edges) {
            for (int edge = 0; edge < edges; edge++) {
                flows.lower(edge);
            }
        }

        void cheapen() {
            flows.cheapen();
            flows.keepCheap();
        }

        int costOf(int edges) {
            return flows.sumOfCosts(edges);
        }

        void setPrices(int edges, int begins) {
            for (int edge = 0; edge < edges; edge++) {
                flows.free(edge);
            }
            flows.setLevelsFrom(begins);
        }

        boolean hasPrice(int corner) {
            return flows.levelOf(corner) < Flows.FAR;
        }

        int priceOf(int corner) {
            return flows.levelOf(corner);
        }

        /** How many rounds there are; it stops behind the one that is asked for, and its way and amount are kept. */
        int goRounds(Net net, int begins, int ends, int asked) {
            flows.start(net.corners);
            addEdges(net);
            total = 0;
            int many = 0;
            for (int tries = 0; tries < Flows.TRIES; tries++) {
                amount = flows.send(begins, ends, Flows.ALL);
                if (amount <= 0) {
                    return many;
                }
                total += amount;
                many++;
                if (many - 1 == asked) {
                    return many;
                }
            }
            return many;
        }

        int signAt(int index) {
            int sign = flows.signAt(index);
            return sign < Flows.BACK ? sign : sign - Flows.BACK + MOST_EDGES;
        }

        int waysByEdges(Net net, int begins, int ends) {
            flows.start(net.corners);
            for (int edge = 0; edge < net.edges; edge++) {
                flows.add(net.from[edge], net.to[edge], 0, net.most[edge] != 0 ? 1 : 0, 0);
            }
            return flows.push(begins, ends, Flows.ALL);
        }

        /** Each corner is two nodes, and one edge between them lets one way through. */
        int waysByCorners(Net net, int begins, int ends) {
            flows.start(2 * MOST_CORNERS);
            for (int edge = 0; edge < net.edges; edge++) {
                flows.add(net.from[edge] + MOST_CORNERS, net.to[edge], 0, net.most[edge] != 0 ? 1 : 0, 0);
            }
            for (int corner = 0; corner < net.corners; corner++) {
                if (corner != begins && corner != ends) {
                    flows.add(corner, corner + MOST_CORNERS, 0, 1, 0);
                }
            }
            return flows.push(begins + MOST_CORNERS, ends, Flows.ALL);
        }

        /** A hub brings what corners supply, and takes what they want. */
        boolean meetDemands(Net net) {
            int hub = net.corners;
            flows.start(net.corners + 1);
            addEdges(net);
            for (int corner = 0; corner < net.corners; corner++) {
                int supplied = net.supply[corner];
                if (supplied > 0) {
                    flows.add(hub, corner, supplied, supplied, 0);
                } else if (supplied < 0) {
                    flows.add(corner, hub, -supplied, -supplied, 0);
                }
            }
            return flows.settle();
        }

        /**
         * A way of so many edges can be begun in each step that leaves as many to go: what is there in the end is, for
         * each way, what it lets times (steps + 1 - its edges), and by the theorem of Ford and Fulkerson waiting
         * brings no more. So each edge costs 1, and each thing that comes back from the sink earns steps + 1.
         */
        int arriveBy(Net net, int begins, int ends, int steps) {
            flows.start(net.corners);
            for (int edge = 0; edge < net.edges; edge++) {
                flows.add(net.from[edge], net.to[edge], 0, net.most[edge], 1);
            }
            flows.add(ends, begins, 0, Flows.ALL, -(steps + 1));
            flows.cheapen();
            return -flows.sumOfCosts(net.edges + 1);
        }

        boolean fills(Net net, int set) {
            for (int edge = 0; edge < net.edges; edge++) {
                boolean leadsOut = hasOneOf(set, net.from[edge], net.to[edge]);
                boolean leadsIn = hasOneOf(set, net.to[edge], net.from[edge]);
                if (leadsOut && numberOf(edge) != net.most[edge] || leadsIn && numberOf(edge) != net.least[edge]) {
                    return false;
                }
            }
            return true;
        }

        boolean arePricesRight(Net net) {
            for (int edge = 0; edge < net.edges; edge++) {
                int begins = priceOf(net.from[edge]);
                int ends = priceOf(net.to[edge]);
                int number = numberOf(edge);
                if (number < net.most[edge] && begins < Flows.FAR && ends > begins + net.cost[edge]) {
                    return false;
                }
                if (number > net.least[edge] && ends < Flows.FAR && begins > ends - net.cost[edge]) {
                    return false;
                }
            }
            return true;
        }
    }

    /** Looks at all sets of corners of a net, of which there are 256 at most. */
    private static final class Cuts {
        private int mostOut;
        private int leastOut;
        private int mostIn;
        private int leastIn;
        private int near;
        private int far;
        private int many;

        /** Adds up the bounds of the edges that lead from a set, and of those that lead into it. */
        private void weigh(Net net, int set) {
            mostOut = 0;
            leastOut = 0;
            mostIn = 0;
            leastIn = 0;
            for (int edge = 0; edge < net.edges; edge++) {
                int begins = set >> net.from[edge] & 1;
                int ends = set >> net.to[edge] & 1;
                if (begins > ends) {
                    mostOut += net.most[edge];
                    leastOut += net.least[edge];
                } else if (begins < ends) {
                    mostIn += net.most[edge];
                    leastIn += net.least[edge];
                }
            }
        }

        int sumOfCut(Net net, int set) {
            weigh(net, set);
            return mostOut - leastIn;
        }

        int sumBothWays(Net net, int set) {
            weigh(net, set);
            return mostOut + mostIn;
        }

        boolean isCrowd(Net net, int set) {
            weigh(net, set);
            return leastOut > mostIn;
        }

        boolean isBroken(Net net, int set) {
            int sum = 0;
            for (int corner = 0; corner < net.corners; corner++) {
                sum += hasBit(set, corner) ? net.supply[corner] : 0;
            }
            weigh(net, set);
            return sum > mostOut - leastIn || sum < leastOut - mostIn;
        }

        void findLeast(Net net, int source, int sink) {
            int least = 0;
            near = 0;
            far = 0;
            many = 0;
            for (int set = 0; set < 1 << net.corners; set++) {
                if (hasOneOf(set, source, sink)) {
                    int sum = sumOfCut(net, set);
                    if (many == 0 || sum < least) {
                        least = sum;
                        near = set;
                        far = set;
                        many = 1;
                    } else if (sum == least) {
                        near &= set;
                        far |= set;
                        many++;
                    }
                }
            }
        }

        int leastCrowd(Net net, int source, int sink) {
            for (int set = 1; set < 1 << net.corners; set++) {
                if (hasBit(set, source) == hasBit(set, sink) && isCrowd(net, set)) {
                    return set;
                }
            }
            return NONE;
        }

        int leastBreaker(Net net) {
            for (int set = 1; set < 1 << net.corners; set++) {
                if (isBroken(net, set)) {
                    return set;
                }
            }
            return NONE;
        }

        int fewestApart(Net net, int source, int sink) {
            int found = 0;
            int fewest = MOST_CORNERS + 1;
            for (int set = 0; set < 1 << net.corners; set++) {
                int size = Integer.bitCount(set);
                if (size < fewest && !hasBit(set, source) && !hasBit(set, sink)
                        && !hasBit(net.reachFrom(source, set), sink)) {
                    found = set;
                    fewest = size;
                }
            }
            return found;
        }
    }

    /** The tree of least cuts, with the sums of all sets of corners of a net. */
    private static final class Tree {
        private int corners;
        private final int[] sums;
        private final int[] parents;
        private final int[] weights;

        private Tree() {
            sums = new int[1 << MOST_CORNERS];
            parents = new int[MOST_CORNERS];
            weights = new int[MOST_CORNERS];
        }

        /** A set and all the other corners have the same sum. */
        void measure(Net net, Cuts scan) {
            corners = net.corners;
            int all = (1 << corners) - 1;
            for (int set = 0; set <= all - set; set++) {
                sums[set] = scan.sumBothWays(net, set);
                sums[all - set] = sums[set];
            }
        }

        int leastCut(int one, int other) {
            int least = Flows.FAR;
            for (int set = 0; set < 1 << corners; set++) {
                if (sums[set] < least && hasOneOf(set, one, other)) {
                    least = sums[set];
                }
            }
            return least;
        }

        private int sideInAll(int one, int other, int least) {
            int side = NONE;
            for (int set = 0; set < 1 << corners; set++) {
                if (sums[set] == least && hasOneOf(set, one, other)) {
                    side &= set;
                }
            }
            return side;
        }

        void grow() {
            for (int corner = 0; corner < corners; corner++) {
                parents[corner] = 0;
                weights[corner] = 0;
            }
            for (int corner = 1; corner < corners; corner++) {
                int parent = parents[corner];
                weights[corner] = leastCut(corner, parent);
                int side = sideInAll(corner, parent, weights[corner]);
                for (int later = corner + 1; later < corners; later++) {
                    if (parents[later] == parent && hasBit(side, later)) {
                        parents[later] = corner;
                    }
                }
            }
        }

        /** A parent's number is below its corner's, so the greater one of both goes up until they meet. */
        int leastOnWay(int one, int other) {
            int least = Flows.FAR;
            int a = one;
            int b = other;
            for (int step = 0; step < 2 * MOST_CORNERS && a != b; step++) {
                int up = a > b ? a : b;
                least = weights[up] < least ? weights[up] : least;
                a = a == up ? parents[up] : a;
                b = b == up ? parents[up] : b;
            }
            return least;
        }
    }

    /** Left and right ones. By a theorem of Hall's, crowds tell how many can be paired. */
    private static final class Pairing {
        private static final int SIZE = 8;
        private static final int ALL = 255;

        private final int[] liked;
        private final int[] together;
        private final int[] row;

        private Pairing() {
            liked = new int[SIZE];
            together = new int[ALL + 1];
            row = new int[SIZE];
        }

        /** All that the left ones of each set like together. */
        void gather() {
            together[0] = 0;
            for (int left = 0; left < SIZE; left++) {
                int size = 1 << left;
                for (int set = 0; set < size; set++) {
                    together[set + size] = together[set] | liked[left];
                }
            }
        }

        /** How many of the left ones from first on can be paired with right ones that are free. */
        int greatest(int first, int free) {
            int count = SIZE - first;
            int fewest = count;
            for (int rest = 0; rest < 1 << count; rest++) {
                int pairs = count - Integer.bitCount(rest) + Integer.bitCount(together[rest << first] & free);
                fewest = pairs < fewest ? pairs : fewest;
            }
            return fewest;
        }

        void tellLeastRow() {
            int free = ALL;
            int wanted = greatest(0, free);
            for (int left = 0; left < SIZE; left++) {
                int right = leastRight(left, free, wanted);
                row[left] = right;
                if (right < SIZE) {
                    free &= ~(1 << right);
                    wanted--;
                }
            }
        }

        private int leastRight(int left, int free, int wanted) {
            for (int right = 0; right < SIZE; right++) {
                if (hasBit(liked[left] & free, right)
                        && greatest(left + 1, free & ~(1 << right)) == wanted - 1) {
                    return right;
                }
            }
            return SIZE;
        }

        int likedByOthers(int left) {
            return together[ALL & ~left];
        }

        int leftOfCover() {
            int found = 0;
            int fewest = 2 * SIZE + 1;
            for (int left = 0; left <= ALL; left++) {
                int size = Integer.bitCount(left) + Integer.bitCount(likedByOthers(left));
                if (size < fewest) {
                    found = left;
                    fewest = size;
                }
            }
            return found;
        }

        int leastCrowd() {
            int found = 0;
            int greatest = 0;
            for (int set = 0; set <= ALL; set++) {
                int more = Integer.bitCount(set) - Integer.bitCount(together[set]);
                if (more > greatest) {
                    greatest = more;
                    found = set;
                } else if (more == greatest) {
                    found &= set;
                }
            }
            return found;
        }

        /** Whether the row is a pairing, and the cover a cover with as many. */
        boolean isCovered() {
            int cover = leftOfCover();
            int right = likedByOthers(cover);
            int free = ALL;
            int many = 0;
            for (int left = 0; left < SIZE; left++) {
                if (!hasBit(cover, left) && (liked[left] & ~right) != 0) {
                    return false;
                }
                if (row[left] < SIZE) {
                    if (!hasBit(liked[left] & free, row[left])) {
                        return false;
                    }
                    free &= ~(1 << row[left]);
                    many++;
                }
            }
            return many == Integer.bitCount(cover) + Integer.bitCount(right);
        }
    }

    /** Teams, their wins, and the games that are left between each two. */
    private static final class League {
        private static final int SIZE = 6;
        private static final int MOST_GAMES = 9;

        private int teams;
        private final int[] wins;
        private final int[] left;

        private League() {
            wins = new int[SIZE];
            left = new int[SIZE * SIZE];
        }

        int enter(int won) {
            if (teams < 0 || teams >= SIZE) {
                return NONE;
            }
            wins[teams] = won;
            teams++;
            return teams - 1;
        }

        int gamesLeft(int one, int other) {
            return left[one * SIZE + other];
        }

        void setGames(int one, int other, int many) {
            left[one * SIZE + other] = many;
            left[other * SIZE + one] = many;
        }

        /** The least set of others that win too much even if the team wins all of its games; 0 if there is none. */
        int leastRivals(int team) {
            int reached = wins[team];
            for (int other = 0; other < teams; other++) {
                reached += gamesLeft(team, other);
            }
            for (int set = 1; set < 1 << teams; set++) {
                if (!hasBit(set, team) && winsTogether(set) > Integer.bitCount(set) * reached) {
                    return set;
                }
            }
            return 0;
        }

        private int winsTogether(int set) {
            int sum = 0;
            for (int one = 0; one < teams; one++) {
                if (hasBit(set, one)) {
                    sum += wins[one];
                    for (int other = one + 1; other < teams; other++) {
                        sum += hasBit(set, other) ? gamesLeft(one, other) : 0;
                    }
                }
            }
            return sum;
        }
    }

    /** A table of tenths, and the whole numbers to which it is rounded. */
    private static final class Table {
        private static final int SIZE = 4;
        private static final int MOST_TENTHS = 999;

        private int rows;
        private int columns;
        private final int[] tenths;
        private final int[] whole;
        private final int[] rowSums;
        private final int[] columnSums;
        private int sum;

        private Table() {
            tenths = new int[SIZE * SIZE];
            whole = new int[SIZE * SIZE];
            rowSums = new int[SIZE];
            columnSums = new int[SIZE];
            rows = 1;
            columns = 1;
        }

        void start(int rowCount, int columnCount) {
            rows = rowCount;
            columns = columnCount;
            for (int place = 0; place < tenths.length; place++) {
                tenths[place] = 0;
            }
        }

        int placeOf(int row, int column) {
            return row * columns + column;
        }

        private void addUp(int[] numbers) {
            sum = 0;
            for (int index = 0; index < SIZE; index++) {
                rowSums[index] = 0;
                columnSums[index] = 0;
            }
            for (int row = 0; row < rows; row++) {
                for (int column = 0; column < columns; column++) {
                    int number = numbers[placeOf(row, column)];
                    rowSums[row] += number;
                    columnSums[column] += number;
                    sum += number;
                }
            }
        }

        /** What is in the table flows from its rows to its columns, and from all columns back to all rows. */
        void roundBy(Flows flows) {
            addUp(tenths);
            int begin = rows + columns;
            int end = begin + 1;
            flows.start(end + 1);
            for (int row = 0; row < rows; row++) {
                for (int column = 0; column < columns; column++) {
                    addRounded(flows, row, rows + column, tenths[placeOf(row, column)]);
                }
            }
            for (int row = 0; row < rows; row++) {
                addRounded(flows, begin, row, rowSums[row]);
            }
            for (int column = 0; column < columns; column++) {
                addRounded(flows, rows + column, end, columnSums[column]);
            }
            addRounded(flows, end, begin, sum);
            flows.settle();
            for (int place = 0; place < rows * columns && place < whole.length; place++) {
                flows.lower(place);
                whole[place] = flows.numberOf(place);
            }
        }

        private static void addRounded(Flows flows, int from, int to, int tenths) {
            flows.add(from, to, tenths / 10, (tenths + 9) / 10, 0);
        }

        boolean isRounded() {
            for (int place = 0; place < rows * columns && place < whole.length; place++) {
                if (!isNear(whole[place], tenths[place])) {
                    return false;
                }
            }
            addUp(whole);
            int wholeSum = sum;
            for (int row = 0; row < rows; row++) {
                if (!isNear(rowSums[row], sumOfTenths(row, row + 1, 0, columns))) {
                    return false;
                }
            }
            for (int column = 0; column < columns; column++) {
                if (!isNear(columnSums[column], sumOfTenths(0, rows, column, column + 1))) {
                    return false;
                }
            }
            return isNear(wholeSum, sumOfTenths(0, rows, 0, columns));
        }

        private int sumOfTenths(int firstRow, int behindRow, int firstColumn, int behindColumn) {
            int found = 0;
            for (int row = firstRow; row < behindRow; row++) {
                for (int column = firstColumn; column < behindColumn; column++) {
                    found += tenths[placeOf(row, column)];
                }
            }
            return found;
        }

        private static boolean isNear(int number, int exact) {
            return number == exact / 10 || number == (exact + 9) / 10;
        }
    }

    /** Projects and the tools that they need: all sets of projects are looked at, of which there are 256 at most. */
    private static final class Projects {
        private static final int SIZE = 8;
        private static final int ALL_TOOLS = 255;

        private int count;
        private final int[] gains;
        private final int[] needed;
        private final int[] prices;
        private int greatest;
        private int inAll;
        private int inSome;

        private Projects() {
            gains = new int[SIZE];
            needed = new int[SIZE];
            prices = new int[SIZE];
        }

        int put(int gain, int tools) {
            if (count < 0 || count >= SIZE) {
                return NONE;
            }
            gains[count] = gain;
            needed[count] = tools;
            count++;
            return count - 1;
        }

        void choose() {
            greatest = 0;
            inAll = 0;
            inSome = 0;
            for (int set = 1; set < 1 << count; set++) {
                int worth = worthOf(set);
                if (worth > greatest) {
                    greatest = worth;
                    inAll = set;
                    inSome = set;
                } else if (worth == greatest) {
                    inAll &= set;
                    inSome |= set;
                }
            }
        }

        private int worthOf(int set) {
            int worth = 0;
            int tools = 0;
            for (int project = 0; project < count; project++) {
                if (hasBit(set, project)) {
                    worth += gains[project];
                    tools |= needed[project];
                }
            }
            for (int tool = 0; tool < SIZE; tool++) {
                worth -= hasBit(tools, tool) ? prices[tool] : 0;
            }
            return worth;
        }
    }
}
