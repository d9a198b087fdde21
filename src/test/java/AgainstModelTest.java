import java.util.Random;

/** Random runs of calls, the same on a CutsetWorks and on the Model: each answer or exception must be the same. */
public final class AgainstModelTest {
    private static final int RUNS = 320;
    private static final int CALLS = 512;

    private interface Call {
        Object on();
    }

    private final Random random;
    private final CutsetWorks works = new CutsetWorks();
    private final Model model = new Model();
    private final int corners;
    private final int greatest;
    private final boolean hasLeasts;
    private final int badOne;
    private int used;
    private int wrong;

    private AgainstModelTest(long seed) {
        random = new Random(seed);
        corners = 2 + random.nextInt(7);
        greatest = new int[] {1, 2, 5, 20, 99}[random.nextInt(5)];
        hasLeasts = random.nextBoolean();
        badOne = 4 + random.nextInt(60);
    }

    public static void main(String[] args) {
        int wrong = 0;
        for (int run = 0; run < RUNS && wrong == 0; run++) {
            AgainstModelTest test = new AgainstModelTest(run);
            test.build();
            while (test.used < CALLS && test.wrong == 0) {
                test.next(run);
            }
            wrong += test.wrong;
        }
        System.out.println(wrong == 0 ? RUNS + " runs are as the model says" : "the model says otherwise");
        if (wrong != 0) {
            System.exit(1);
        }
    }

    private void build() {
        int many = 1 + random.nextInt(4);
        for (int net = 0; net < many; net++) {
            both("net", () -> works.net(corners), () -> model.net(corners));
            int edges = random.nextInt(17);
            for (int edge = 0; edge < edges; edge++) {
                addEdge(net);
            }
        }
    }

    private void addEdge(int net) {
        int from = upTo(corners);
        int to = upTo(corners);
        int most = random.nextInt(12) == 0 ? upTo(100) : upTo(greatest + 1);
        int least = hasLeasts && random.nextInt(3) == 0 ? upTo(most + 1) : 0;
        int cost = random.nextInt(3) == 0 ? 0 : upTo(41) - 20;
        both("edge " + net + " " + from + " " + to + " " + least + " " + most + " " + cost,
                () -> works.edge(net, from, to, least, most, cost),
                () -> model.edge(net, from, to, least, most, cost));
    }

    /** A number below the bound, now and then just outside of it or far away. */
    private int upTo(int bound) {
        if (random.nextInt(badOne) == 0) {
            return new int[] {-1, bound, bound + 1, Integer.MIN_VALUE, Integer.MAX_VALUE, 1000, -1000, 64}[random
                    .nextInt(8)];
        }
        return random.nextInt(Math.max(bound, 1));
    }

    /** An object is used for so many calls alone: what it answers then is free. */
    private void both(String name, Call one, Call other) {
        if (used >= CALLS) {
            return;
        }
        used++;
        Object got = answer(one);
        Object due = answer(other);
        if (!got.equals(due)) {
            wrong++;
            System.out.println(name + " answered " + got + ", due is " + due);
        }
    }

    private static Object answer(Call call) {
        try {
            return call.on();
        } catch (RuntimeException e) {
            return e.getClass().getName();
        }
    }

    private void next(int run) {
        int kind = random.nextInt(52);
        int net = random.nextInt(40) == 0 ? upTo(5) : random.nextInt(4);
        String name = "run " + run + " kind " + kind + " ";
        if (kind < 34) {
            ofNets(kind, name, net);
        } else if (kind < 45) {
            others(kind, name);
        } else {
            last(kind, name, net);
        }
    }

    private void ofNets(int kind, String name, int net) {
        int s = upTo(corners);
        int t = random.nextInt(6) == 0 ? upTo(corners) : s == corners - 1 ? 0 : corners - 1;
        int e = upTo(16);
        int edge = random.nextInt(3) == 0 ? e : upTo(Math.max(1, edgesOf(net)));
        int c = upTo(corners);
        int x = random.nextInt(5);
        int y = random.nextInt(8);
        int set = random.nextBoolean() ? upTo(1 << corners) : upTo(1 << corners) | 1 << (s & 7);
        boolean is = random.nextBoolean();
        String a = name + net + " " + s + " " + t + " " + edge + " " + c + " " + x + " " + y + " " + set + " " + is;
        switch (kind) {
            case 0 -> both(a, () -> works.net(c), () -> model.net(c));
            case 1 -> addEdge(net);
            case 2, 3 -> change(a, net, edge);
            case 4 -> {
                if (random.nextInt(3) == 0) {
                    both(a, () -> works.drop(net, edge), () -> model.drop(net, edge));
                } else {
                    addEdge(net);
                }
            }
            case 5 -> both(a, () -> works.edges(net), () -> model.edges(net));
            case 6, 7 -> supply(a, net, c);
            case 8 -> both(a, () -> works.most(net, s, t), () -> model.most(net, s, t));
            case 9 -> both(a, () -> works.flow(net, s, t, edge), () -> model.flow(net, s, t, edge));
            case 10 -> both(a, () -> works.crowd(net, s, t), () -> model.crowd(net, s, t));
            case 11 -> both(a, () -> works.cut(net, s, t, is), () -> model.cut(net, s, t, is));
            case 12 -> both(a, () -> works.cutSum(net, s, t, set), () -> model.cutSum(net, s, t, set));
            case 13 -> both(a, () -> works.cuts(net, s, t), () -> model.cuts(net, s, t));
            case 14 -> both(a, () -> works.isFull(net, s, t, edge), () -> model.isFull(net, s, t, edge));
            case 15 -> both(a, () -> works.rounds(net, s, t), () -> model.rounds(net, s, t));
            case 16 -> both(a, () -> works.roundAmount(net, s, t, x), () -> model.roundAmount(net, s, t, x));
            case 17, 18 -> both(a, () -> works.roundSign(net, s, t, x, y), () -> model.roundSign(net, s, t, x, y));
            case 19 -> both(a, () -> works.cost(net, s, t), () -> model.cost(net, s, t));
            case 20 -> both(a, () -> works.cheapest(net, s, t, edge), () -> model.cheapest(net, s, t, edge));
            case 21 -> both(a, () -> works.price(net, s, t, c), () -> model.price(net, s, t, c));
            case 22 -> both(a, () -> works.edgeWays(net, s, t), () -> model.edgeWays(net, s, t));
            case 23 -> both(a, () -> works.cornerWays(net, s, t), () -> model.cornerWays(net, s, t));
            case 24 -> both(a, () -> works.apart(net, s, t), () -> model.apart(net, s, t));
            case 25 -> both(a, () -> works.wider(net, s, t, edge), () -> model.wider(net, s, t, edge));
            case 26 -> both(a, () -> works.without(net, s, t, edge), () -> model.without(net, s, t, edge));
            case 27 -> both(a, () -> works.holds(net), () -> model.holds(net));
            case 28 -> both(a, () -> works.meets(net, edge), () -> model.meets(net, edge));
            case 29 -> both(a, () -> works.breaks(net), () -> model.breaks(net));
            case 30 -> both(a, () -> works.parent(net, c), () -> model.parent(net, c));
            case 31 -> both(a, () -> works.between(net, s, t), () -> model.between(net, s, t));
            default -> both(a, () -> works.inSteps(net, s, t, x + y - 1), () -> model.inSteps(net, s, t, x + y - 1));
        }
    }

    private int edgesOf(int net) {
        return net >= 0 && answer(() -> model.edges(net)) instanceof Integer many ? many : 0;
    }

    private void change(String a, int net, int edge) {
        int most = upTo(greatest + 1);
        int least = hasLeasts && random.nextInt(3) == 0 ? upTo(most + 1) : 0;
        int cost = upTo(41) - 20;
        both(a + " change " + least + " " + most + " " + cost, () -> works.change(net, edge, least, most, cost),
                () -> model.change(net, edge, least, most, cost));
    }

    /** Either one supply, or all of them by a row that can be met, so that both occur. */
    private void supply(String a, int net, int corner) {
        int amount = upTo(2 * greatest + 1) - greatest;
        both(a + " supply " + amount, () -> works.supply(net, corner, amount),
                () -> model.supply(net, corner, amount));
        int other = upTo(corners);
        if (random.nextInt(3) > 0) {
            for (int c = 0; c < corners; c++) {
                int at = c;
                int what = c == other && c != corner ? -amount : c == corner && c != other ? amount : 0;
                both(a, () -> works.supply(net, at, what), () -> model.supply(net, at, what));
            }
        }
    }

    private void others(int kind, String name) {
        int left = upTo(8);
        int set = random.nextBoolean() ? upTo(256) : upTo(256) & upTo(256);
        int one = upTo(6);
        int other = upTo(6);
        int many = upTo(10);
        boolean is = random.nextBoolean();
        String a = name + left + " " + set + " " + one + " " + other + " " + many + " " + is;
        switch (kind) {
            case 34, 35 -> both(a, () -> works.likes(left, set), () -> model.likes(left, set));
            case 36 -> both(a, works::pairs, model::pairs);
            case 37 -> both(a, () -> works.pairOf(left), () -> model.pairOf(left));
            case 38 -> both(a, () -> works.cover(is), () -> model.cover(is));
            case 39 -> both(a, works::crowdOfLeft, model::crowdOfLeft);
            case 40 -> {
                int wins = greatest < 20 ? upTo(greatest + 3) : 70 + upTo(30);
                both(a, () -> works.team(wins), () -> model.team(wins));
            }
            case 41, 42 -> both(a, () -> works.games(one, other, many), () -> model.games(one, other, many));
            case 43 -> both(a, () -> works.canWin(one), () -> model.canWin(one));
            default -> both(a, () -> works.against(one), () -> model.against(one));
        }
    }

    private void last(int kind, String name, int net) {
        int row = upTo(4);
        int column = upTo(4);
        int tenths = random.nextInt(3) == 0 ? 10 * upTo(100) : random.nextBoolean() ? upTo(1000) : upTo(20);
        int tools = upTo(256) & upTo(256);
        int gain = random.nextBoolean() ? upTo(100) : upTo(12);
        int price = random.nextBoolean() ? upTo(100) : upTo(12);
        int tool = upTo(8);
        boolean is = random.nextBoolean();
        int s = upTo(corners);
        int t = upTo(corners);
        String a = name + net + " " + row + " " + column + " " + tenths + " " + s + " " + t;
        switch (kind) {
            case 45 -> {
                if (random.nextInt(4) == 0) {
                    both(a, () -> works.table(row + 1, column + 1), () -> model.table(row + 1, column + 1));
                }
                both(a, () -> works.tell(row, column, tenths), () -> model.tell(row, column, tenths));
            }
            case 46 -> both(a, () -> works.rounded(row, column), () -> model.rounded(row, column));
            case 47 -> {
                both(a, () -> works.project(gain, tools), () -> model.project(gain, tools));
                both(a, () -> works.toolCost(tool, price), () -> model.toolCost(tool, price));
            }
            case 48 -> {
                both(a, () -> works.chosen(is), () -> model.chosen(is));
                both(a, works::best, model::best);
            }
            case 49 -> both(a, () -> works.checksum(net), () -> model.checksum(net));
            case 50 -> {
                both(a, () -> works.fullShare(net, s, t), () -> model.fullShare(net, s, t));
                both(a, () -> works.meanFlow(net, s, t), () -> model.meanFlow(net, s, t));
            }
            default -> both(a, works::isSound, model::isSound);
        }
    }
}
