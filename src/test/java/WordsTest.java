import java.util.ArrayList;
import java.util.Arrays;
import java.util.HashSet;
import java.util.List;
import java.util.NoSuchElementException;
import java.util.Random;
import java.util.Set;

/**
 * The document at its word, without a theorem in between: ways that are listed and chosen, rows of numbers of the net
 * as it would be, things that set out step by step, games that end in each way that they can, pairings that are all
 * tried, and the tree gone along by its parents.
 */
public final class WordsTest {
    private static final int NETS = 4000;
    private static final int STEPPED = 1000;
    private static final int LEAGUES = 2000;
    private static final int PAIRINGS = 1000;
    private static final long NONE = Long.MIN_VALUE;
    private static int wrong;

    private interface Call {
        long on();
    }

    private final Random random;
    private final CutsetWorks works = new CutsetWorks();
    /** Each: from, to, least, most. */
    private final List<int[]> edges = new ArrayList<>();
    private int corners;

    private WordsTest(Random random) {
        this.random = random;
    }

    public static void main(String[] args) {
        Random random = new Random(11);
        for (int net = 0; net < NETS && wrong == 0; net++) {
            WordsTest test = new WordsTest(random);
            test.build(2 + random.nextInt(5), random.nextInt(11));
            test.checkWays(0, test.corners - 1);
            test.checkTree();
        }
        for (int net = 0; net < NETS && wrong == 0; net++) {
            WordsTest test = new WordsTest(random);
            test.build(2 + random.nextInt(4), random.nextInt(6));
            test.checkOtherMosts(test.corners - 1, 0);
        }
        for (int net = 0; net < STEPPED && wrong == 0; net++) {
            WordsTest test = new WordsTest(random);
            test.build(2 + random.nextInt(3), random.nextInt(6));
            test.checkSteps(0, test.corners - 1);
        }
        for (int league = 0; league < LEAGUES && wrong == 0; league++) {
            new WordsTest(random).checkLeague();
        }
        for (int pairing = 0; pairing < PAIRINGS && wrong == 0; pairing++) {
            new WordsTest(random).checkPairs();
        }
        System.out.println(wrong == 0 ? "all is as the words say" : wrong + " answers are not as the words say");
        if (wrong != 0) {
            System.exit(1);
        }
    }

    private void build(int many, int wanted) {
        corners = many;
        works.net(corners);
        for (int e = 0; e < wanted; e++) {
            int from = random.nextInt(corners);
            int to = (from + 1 + random.nextInt(corners - 1)) % corners;
            int most = random.nextInt(3);
            int least = random.nextInt(3) == 0 ? random.nextInt(most + 1) : 0;
            edges.add(new int[] {from, to, least, most});
            works.edge(0, from, to, least, most, random.nextInt(41) - 20);
        }
    }

    private static boolean in(int set, int number) {
        return (set >> number & 1) == 1;
    }

    // part 4: all ways, each as the set of its edges and that of the corners between its ends

    private void checkWays(int source, int sink) {
        List<int[]> ways = new ArrayList<>();
        listWays(ways, source, sink, 0, 0, 1 << source);
        due("edgeWays", works.edgeWays(0, source, sink), mostApart(ways, 0, 0, 0, false));
        due("cornerWays", works.cornerWays(0, source, sink), mostApart(ways, 0, 0, 0, true));
        long best = NONE;
        for (int set = 0; set < 1 << corners; set++) {
            boolean isApart = !in(set, source) && !in(set, sink);
            for (int[] way : ways) {
                isApart &= (way[1] & set) != 0;
            }
            if (isApart && (best == NONE || Integer.bitCount(set) < Integer.bitCount((int) best))) {
                best = set;
            }
        }
        due("apart", answer(() -> works.apart(0, source, sink)), best);
    }

    private void listWays(List<int[]> ways, int at, int sink, int used, int between, int been) {
        for (int e = 0; e < edges.size(); e++) {
            int next = edges.get(e)[1];
            if (edges.get(e)[0] == at && edges.get(e)[3] != 0 && !in(been, next)) {
                if (next == sink) {
                    ways.add(new int[] {used | 1 << e, between});
                } else {
                    listWays(ways, next, sink, used | 1 << e, between | 1 << next, been | 1 << next);
                }
            }
        }
    }

    private static int mostApart(List<int[]> ways, int first, int usedEdges, int usedCorners, boolean byCorners) {
        int best = 0;
        for (int index = first; index < ways.size(); index++) {
            int[] way = ways.get(index);
            if ((way[0] & usedEdges) == 0 && (!byCorners || (way[1] & usedCorners) == 0)) {
                best = Math.max(best,
                        1 + mostApart(ways, index + 1, usedEdges | way[0], usedCorners | way[1], byCorners));
            }
        }
        return best;
    }

    // part 6: the least sum on the way in the tree is that of the best set

    private void checkTree() {
        int[] parents = new int[corners];
        int[] sums = new int[corners];
        for (int c = 1; c < corners; c++) {
            parents[c] = works.parent(0, c);
            sums[c] = leastCut(c, parents[c]);
        }
        for (int one = 0; one < corners; one++) {
            for (int other = 0; other < corners; other++) {
                if (one != other) {
                    int sum = works.between(0, one, other);
                    due("the way between " + one + " and " + other, sum, leastOnWay(parents, sums, one, other));
                    due("the cut between " + one + " and " + other, sum, leastCut(one, other));
                }
            }
        }
    }

    /** The corners that only one of both has on its way up to the corner 0 are those below which the way lies. */
    private int leastOnWay(int[] parents, int[] sums, int one, int other) {
        Set<Integer> a = wayUp(parents, one);
        Set<Integer> b = wayUp(parents, other);
        int least = Integer.MAX_VALUE;
        for (int c = 0; c < corners; c++) {
            least = a.contains(c) != b.contains(c) ? Math.min(least, sums[c]) : least;
        }
        return least;
    }

    private static Set<Integer> wayUp(int[] parents, int corner) {
        Set<Integer> way = new HashSet<>();
        int at = corner;
        while (at != 0 && way.add(at)) {
            at = parents[at];
        }
        return way;
    }

    private int leastCut(int one, int other) {
        int least = Integer.MAX_VALUE;
        for (int set = 0; set < 1 << corners; set++) {
            int sum = 0;
            for (int[] edge : edges) {
                sum += in(set, edge[0]) != in(set, edge[1]) ? edge[3] : 0;
            }
            least = in(set, one) && !in(set, other) ? Math.min(least, sum) : least;
        }
        return least;
    }

    // promises 24 and 25: all rows of the net as it would be

    private void checkOtherMosts(int source, int sink) {
        due("most", answer(() -> works.most(0, source, sink)), greatest(edges, source, sink));
        for (int e = 0; e < edges.size(); e++) {
            int edge = e;
            int[] told = edges.get(e);
            List<int[]> other = new ArrayList<>(edges);
            other.set(e, new int[] {told[0], told[1], told[2], told[3] + 1});
            due("wider " + e, answer(() -> works.wider(0, source, sink, edge)), greatest(other, source, sink));
            other.remove(e);
            due("without " + e, answer(() -> works.without(0, source, sink, edge)), greatest(other, source, sink));
        }
    }

    private long greatest(List<int[]> of, int source, int sink) {
        return greatest(of, 0, new int[corners], source, sink);
    }

    private long greatest(List<int[]> of, int first, int[] leaving, int source, int sink) {
        if (first == of.size()) {
            int[] rest = leaving.clone();
            rest[source] = 0;
            rest[sink] = 0;
            return Arrays.equals(rest, new int[corners]) ? leaving[source] : NONE;
        }
        int[] edge = of.get(first);
        long best = NONE;
        for (int number = edge[2]; number <= edge[3]; number++) {
            int[] then = leaving.clone();
            then[edge[0]] += number;
            then[edge[1]] -= number;
            best = Math.max(best, greatest(of, first + 1, then, source, sink));
        }
        return best;
    }

    // part 7: all that can be at the corners at each step; the source has enough for as many steps

    private void checkSteps(int source, int sink) {
        int enough = 100;
        Set<List<Integer>> now = new HashSet<>();
        Integer[] start = new Integer[corners];
        Arrays.fill(start, 0);
        start[source] = enough;
        now.add(List.of(start));
        for (int step = 0; step <= 3; step++) {
            int best = 0;
            for (List<Integer> state : now) {
                best = Math.max(best, state.get(sink));
            }
            due("inSteps " + step, works.inSteps(0, source, sink, step), best);
            Set<List<Integer>> next = new HashSet<>();
            for (List<Integer> state : now) {
                setOut(next, state, state, 0);
            }
            now = next;
        }
    }

    /** What is still left at the corners in this step, and what is there then, by how many set out along each edge. */
    private void setOut(Set<List<Integer>> next, List<Integer> left, List<Integer> then, int first) {
        if (first == edges.size()) {
            next.add(List.copyOf(then));
            return;
        }
        int from = edges.get(first)[0];
        int to = edges.get(first)[1];
        for (int many = 0; many <= edges.get(first)[3] && many <= left.get(from); many++) {
            List<Integer> leftThen = new ArrayList<>(left);
            List<Integer> thenThen = new ArrayList<>(then);
            leftThen.set(from, left.get(from) - many);
            thenThen.set(from, then.get(from) - many);
            thenThen.set(to, thenThen.get(to) + many);
            setOut(next, leftThen, thenThen, first + 1);
        }
    }

    // part 9: each way in which all games can end

    private void checkLeague() {
        int teams = 1 + random.nextInt(5);
        int[] wins = new int[teams];
        List<int[]> games = new ArrayList<>();
        for (int team = 0; team < teams; team++) {
            wins[team] = 5 + random.nextInt(4);
            works.team(wins[team]);
            for (int other = 0; other < team; other++) {
                int many = random.nextInt(3);
                works.games(team, other, many);
                games.add(new int[] {team, other, many});
            }
        }
        int canWin = winners(wins, games, 0);
        for (int team = 0; team < teams; team++) {
            int asked = team;
            due("canWin " + team, works.canWin(team) ? 1 : 0, in(canWin, team) ? 1 : 0);
            due("against " + team + " throws", answer(() -> works.against(asked)) == NONE ? 1 : 0,
                    in(canWin, team) ? 1 : 0);
        }
    }

    /** The set of teams that win in some of the ends. */
    private static int winners(int[] wins, List<int[]> games, int first) {
        if (first == games.size()) {
            int greatest = Arrays.stream(wins).max().orElse(0);
            int set = 0;
            for (int team = 0; team < wins.length; team++) {
                set |= wins[team] == greatest ? 1 << team : 0;
            }
            return set;
        }
        int[] game = games.get(first);
        int set = 0;
        for (int won = 0; won <= game[2]; won++) {
            int[] then = wins.clone();
            then[game[0]] += won;
            then[game[1]] += game[2] - won;
            set |= winners(then, games, first + 1);
        }
        return set;
    }

    // part 8: all pairings, from the least row on

    private void checkPairs() {
        int[] liked = new int[8];
        for (int left = 0; left < 8; left++) {
            for (int likes = random.nextInt(4); likes > 0; likes--) {
                liked[left] |= 1 << random.nextInt(8);
            }
            works.likes(left, liked[left]);
        }
        int[] best = new int[8];
        Arrays.fill(best, 8);
        best = bestPairing(liked, new int[8], 0, 255, best);
        due("pairs", works.pairs(), paired(best));
        for (int left = 0; left < 8; left++) {
            int asked = left;
            due("pairOf " + left, answer(() -> works.pairOf(asked)), best[left] == 8 ? NONE : best[left]);
        }
        due("as many in the cover", Integer.bitCount(works.cover(true)) + Integer.bitCount(works.cover(false)),
                paired(best));
    }

    private static int paired(int[] row) {
        int many = 0;
        for (int right : row) {
            many += right < 8 ? 1 : 0;
        }
        return many;
    }

    /** Rows come from the least one on, so that of as many pairs the first one stays. */
    private static int[] bestPairing(int[] liked, int[] row, int left, int free, int[] before) {
        if (left == 8) {
            return paired(row) > paired(before) ? row.clone() : before;
        }
        int[] best = before;
        for (int right = 0; right <= 8; right++) {
            if (right == 8 || in(liked[left] & free, right)) {
                row[left] = right;
                best = bestPairing(liked, row, left + 1, free & ~(1 << right), best);
            }
        }
        return best;
    }

    private static long answer(Call call) {
        try {
            return call.on();
        } catch (NoSuchElementException | UnsupportedOperationException e) {
            return NONE;
        }
    }

    private void due(String what, long got, long want) {
        if (got != want) {
            wrong++;
            System.out.println(what + " answered " + got + ", due is " + want + " with "
                    + Arrays.deepToString(edges.toArray()) + " on " + corners);
        }
    }
}
