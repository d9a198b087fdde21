import java.util.Random;

/** Random nets of several kinds: each call on a net, with each edge and corner, answers as the Model does. */
public final class NetsTest {
    private static final int NETS = 1500;

    private interface Call {
        Object on();
    }

    private final Random random;
    private final int kind;
    private final CutsetWorks works = new CutsetWorks();
    private final Model model = new Model();
    private final StringBuilder told = new StringBuilder();
    private int corners;
    private int edges;
    private int calls;
    private int wrong;

    private NetsTest(int kind, long seed) {
        this.kind = kind;
        random = new Random(seed);
    }

    public static void main(String[] args) {
        int wrong = 0;
        for (int net = 0; net < NETS && wrong == 0; net++) {
            NetsTest test = new NetsTest(net % 10, net);
            test.build();
            test.compare();
            wrong += test.wrong;
            if (test.calls > 512) {
                wrong++;
                System.out.println("too many calls: " + test.calls);
            }
        }
        System.out.println(wrong == 0 ? NETS + " nets are as the model says" : "the model says otherwise");
        if (wrong != 0) {
            System.exit(1);
        }
    }

    /**
     * Kinds 0 to 4 have no leasts, 5 to 9 some; of either, the first have small numbers, then great ones, then edges
     * between few corners, then costs that are seldom 0, then edges that lead mostly onward.
     */
    private void build() {
        int flavour = kind % 5;
        corners = flavour == 2 ? 3 + random.nextInt(2) : 4 + random.nextInt(5);
        both("net " + corners, () -> works.net(corners), () -> model.net(corners));
        int wanted = flavour == 2 ? 10 + random.nextInt(7) : 8 + random.nextInt(9);
        int[] supplies = new int[corners];
        while (edges < wanted) {
            int from = random.nextInt(corners);
            int to = random.nextInt(corners);
            if (flavour == 4 && random.nextInt(4) > 0 && from > to) {
                int swap = from;
                from = to;
                to = swap;
            }
            if (from == to) {
                continue;
            }
            int most = flavour == 0 ? random.nextInt(4) : flavour == 1 ? random.nextInt(100) : random.nextInt(12);
            int least = kind < 5 || random.nextInt(4) > 0 ? 0 : random.nextInt(most + 1);
            if (random.nextInt(3) > 0) {
                least /= 3;
            }
            int cost = flavour == 3 || random.nextInt(3) == 0 ? random.nextInt(41) - 20 : random.nextInt(3);
            addEdge(from, to, least, most, cost);
            int number = least + random.nextInt(most - least + 1);
            supplies[from] += number;
            supplies[to] -= number;
            edges++;
        }
        for (int c = 0; c < corners; c++) {
            int corner = c;
            int amount = random.nextInt(60) == 0 ? supplies[c] + 1 : supplies[c];
            both("supply " + c + " " + amount, () -> works.supply(0, corner, amount),
                    () -> model.supply(0, corner, amount));
        }
    }

    private void addEdge(int from, int to, int least, int most, int cost) {
        both("edge " + from + " " + to + " " + least + " " + most + " " + cost,
                () -> works.edge(0, from, to, least, most, cost),
                () -> model.edge(0, from, to, least, most, cost));
    }

    private void compare() {
        int[] ends = {0, corners - 1, corners - 1, 0, random.nextInt(corners), 1};
        for (int index = 0; index < ends.length; index += 2) {
            int s = ends[index];
            int t = ends[index + 1];
            String a = s + " " + t + " ";
            both(a + "most", () -> works.most(0, s, t), () -> model.most(0, s, t));
            both(a + "crowd", () -> works.crowd(0, s, t), () -> model.crowd(0, s, t));
            both(a + "near", () -> works.cut(0, s, t, false), () -> model.cut(0, s, t, false));
            both(a + "far", () -> works.cut(0, s, t, true), () -> model.cut(0, s, t, true));
            both(a + "cuts", () -> works.cuts(0, s, t), () -> model.cuts(0, s, t));
            both(a + "cost", () -> works.cost(0, s, t), () -> model.cost(0, s, t));
            both(a + "edgeWays", () -> works.edgeWays(0, s, t), () -> model.edgeWays(0, s, t));
            both(a + "cornerWays", () -> works.cornerWays(0, s, t), () -> model.cornerWays(0, s, t));
            both(a + "apart", () -> works.apart(0, s, t), () -> model.apart(0, s, t));
            both(a + "between", () -> works.between(0, s, t), () -> model.between(0, s, t));
            both(a + "share", () -> works.fullShare(0, s, t), () -> model.fullShare(0, s, t));
            both(a + "mean", () -> works.meanFlow(0, s, t), () -> model.meanFlow(0, s, t));
            int steps = random.nextInt(9);
            both(a + "inSteps " + steps, () -> works.inSteps(0, s, t, steps), () -> model.inSteps(0, s, t, steps));
            byEdges(a, s, t);
            byCorners(a, s, t);
        }
        both("holds", () -> works.holds(0), () -> model.holds(0));
        both("breaks", () -> works.breaks(0), () -> model.breaks(0));
        both("isSound", () -> works.isSound(), () -> true);
        both("checksum", () -> works.checksum(0), () -> model.checksum(0));
        int gone = random.nextInt(edges);
        both("drop " + gone, () -> works.drop(0, gone), () -> model.drop(0, gone));
        both("most", () -> works.most(0, 0, 1), () -> model.most(0, 0, 1));
        both("checksum", () -> works.checksum(0), () -> model.checksum(0));
        rounds(0, corners - 1);
    }

    private void byEdges(String a, int s, int t) {
        for (int e = 0; e < edges; e++) {
            int edge = e;
            String b = a + e + " ";
            both(b + "flow", () -> works.flow(0, s, t, edge), () -> model.flow(0, s, t, edge));
            both(b + "isFull", () -> works.isFull(0, s, t, edge), () -> model.isFull(0, s, t, edge));
            both(b + "cheapest", () -> works.cheapest(0, s, t, edge), () -> model.cheapest(0, s, t, edge));
            both(b + "wider", () -> works.wider(0, s, t, edge), () -> model.wider(0, s, t, edge));
            both(b + "without", () -> works.without(0, s, t, edge), () -> model.without(0, s, t, edge));
            if (s == 0 && t == corners - 1) {
                both(b + "meets", () -> works.meets(0, edge), () -> model.meets(0, edge));
            }
        }
    }

    private void byCorners(String a, int s, int t) {
        for (int c = 0; c < corners; c++) {
            int corner = c;
            both(a + c + " price", () -> works.price(0, s, t, corner), () -> model.price(0, s, t, corner));
            if (s == 0 && t == corners - 1) {
                both(c + " parent", () -> works.parent(0, corner), () -> model.parent(0, corner));
            }
        }
    }

    private void rounds(int s, int t) {
        both("rounds", () -> works.rounds(0, s, t), () -> model.rounds(0, s, t));
        Object many = answer(() -> model.rounds(0, s, t));
        int last = many instanceof Integer number ? number : 0;
        for (int r = -1; r <= last && r < 12; r++) {
            int round = r;
            both("round " + r, () -> works.roundAmount(0, s, t, round), () -> model.roundAmount(0, s, t, round));
            for (int i = -1; i < 6; i++) {
                int index = i;
                both("sign " + r + " " + i, () -> works.roundSign(0, s, t, round, index),
                        () -> model.roundSign(0, s, t, round, index));
            }
        }
    }

    private void both(String name, Call one, Call other) {
        calls++;
        told.append(name).append("; ");
        Object got = answer(one);
        Object due = answer(other);
        if (!got.equals(due) && wrong == 0) {
            wrong++;
            System.out.println(told + " answered " + got + ", due is " + due);
        }
    }

    private static Object answer(Call call) {
        try {
            return call.on();
        } catch (RuntimeException e) {
            return e.getClass().getName();
        }
    }
}
