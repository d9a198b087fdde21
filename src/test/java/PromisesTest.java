import java.util.NoSuchElementException;

/** Promise by promise: ordinary inputs, the edges that the document names, wrong inputs. Worked out by hand. */
public final class PromisesTest {
    private static final Class<?> PLACE = IndexOutOfBoundsException.class;
    private static final Class<?> ARGUMENT = IllegalArgumentException.class;
    private static final Class<?> STATE = IllegalStateException.class;
    private static final Class<?> NONE = NoSuchElementException.class;
    private static final Class<?> UNSUPPORTED = UnsupportedOperationException.class;
    private static final int[] BAD_NETS = {-1, 1, 4, Integer.MIN_VALUE, Integer.MAX_VALUE};

    private static int promise;
    private static int checks;
    private static int wrong;

    private interface Call {
        Object on();
    }

    public static void main(String[] args) {
        newObject();
        nets();
        edgesAndBounds();
        dropsAndSupplies();
        greatestFlows();
        crowdsAndCuts();
        fullEdges();
        rounds();
        costs();
        prices();
        ways();
        widerAndWithout();
        demands();
        tree();
        steps();
        pairs();
        league();
        table();
        projects();
        sums();
        sound();
        System.out.println(checks + " checks, " + wrong + " wrong");
        if (wrong != 0) {
            System.exit(1);
        }
    }

    private static void due(Object got, Object want) {
        checks++;
        if (!got.equals(want)) {
            wrong++;
            StackTraceElement at = new Throwable().getStackTrace()[1];
            System.out.println("promise " + promise + ", line " + at.getLineNumber() + ": " + got + ", due is " + want);
        }
    }

    private static void fails(Class<?> want, Call call) {
        checks++;
        Object got;
        try {
            got = call.on();
        } catch (RuntimeException e) {
            got = e.getClass();
        }
        if (got != want) {
            wrong++;
            StackTraceElement at = new Throwable().getStackTrace()[1];
            System.out.println("promise " + promise + ", line " + at.getLineNumber() + ": " + got + ", due is " + want);
        }
    }

    /** Each row: from, to, least, most, cost. */
    private static CutsetWorks with(int corners, int[]... edges) {
        CutsetWorks x = new CutsetWorks();
        x.net(corners);
        for (int[] e : edges) {
            x.edge(0, e[0], e[1], e[2], e[3], e[4]);
        }
        return x;
    }

    private static int[] e(int from, int to, int least, int most, int cost) {
        return new int[] {from, to, least, most, cost};
    }

    /** From 0 to 3 by 1 and by 2, and from 1 to 2: 5 can flow. */
    private static CutsetWorks diamond() {
        return with(4, e(0, 1, 0, 3, 1), e(0, 2, 0, 2, 4), e(1, 2, 0, 2, 0), e(1, 3, 0, 2, 5), e(2, 3, 0, 4, 1));
    }

    /** A ring of three, with leasts. */
    private static CutsetWorks ring() {
        return with(3, e(0, 1, 2, 5, -3), e(1, 2, 3, 4, 2), e(2, 0, 0, 1, 0));
    }

    private static void newObject() {
        promise = 1;
        CutsetWorks x = new CutsetWorks();
        fails(PLACE, () -> x.edges(0));
        fails(PLACE, () -> x.canWin(0));
        fails(PLACE, () -> x.rounded(0, 1));
        fails(PLACE, () -> x.rounded(1, 0));
        due(x.rounded(0, 0), 0);
        due(x.tell(0, 0, 7), 0);
        due(x.best(), 0);
        due(x.pairs(), 0);
        due(x.likes(7, 0), 0);
        due(x.toolCost(7, 0), 0);
        due(x.isSound(), true);
        due(x.net(2), 0);
        due(x.team(0), 0);
        due(x.project(0, 0), 0);
    }

    private static void nets() {
        promise = 2;
        CutsetWorks x = new CutsetWorks();
        for (int bad : new int[] {1, 9, 0, -2, Integer.MIN_VALUE, Integer.MAX_VALUE}) {
            fails(ARGUMENT, () -> x.net(bad));
        }
        due(x.net(2), 0);
        due(x.edges(0), 0);
        fails(PLACE, () -> x.edges(1));
        due(x.net(8), 1);
        due(x.net(3), 2);
        due(x.net(5), 3);
        due(x.checksum(0), 7L * 31 * 31);
        due(x.checksum(3), 7L * 31 * 31 * 31 * 31 * 31);
        fails(STATE, () -> x.net(2));
        fails(ARGUMENT, () -> x.net(9));
        fails(PLACE, () -> x.edges(4));
        promise = 6;
        for (int bad : new int[] {-1, 4, Integer.MIN_VALUE, Integer.MAX_VALUE}) {
            fails(PLACE, () -> x.edges(bad));
        }
        x.edge(2, 0, 1, 0, 1, 0);
        due(x.edges(2), 1);
        due(x.edges(1), 0);
    }

    private static void edgesAndBounds() {
        promise = 3;
        CutsetWorks x = new CutsetWorks();
        x.net(3);
        for (int bad : BAD_NETS) {
            fails(PLACE, () -> x.edge(bad, 0, 0, 9, 1, 99));
        }
        int[][] bads = {e(-1, 1, 0, 1, 0), e(3, 1, 0, 1, 0), e(0, -1, 0, 1, 0), e(0, 3, 0, 1, 0), e(1, 1, 0, 1, 0),
            e(0, 1, -1, 1, 0), e(0, 1, 0, 100, 0), e(0, 1, 2, 1, 0), e(0, 1, 0, 1, 21), e(0, 1, 0, 1, -21),
            e(0, 1, Integer.MIN_VALUE, Integer.MAX_VALUE, 0), e(0, 1, -2, -1, 0), e(0, 1, 100, 100, 0)};
        for (int[] b : bads) {
            fails(ARGUMENT, () -> x.edge(0, b[0], b[1], b[2], b[3], b[4]));
        }
        due(x.edges(0), 0);
        due(x.edge(0, 0, 1, 0, 99, 20), 0);
        due(x.edge(0, 0, 1, 99, 99, -20), 1);
        due(x.edge(0, 1, 0, 0, 0, 0), 2);
        for (int number = 3; number < 16; number++) {
            due(x.edge(0, 0, 2, 0, 1, 0), number);
        }
        due(x.edges(0), 16);
        fails(STATE, () -> x.edge(0, 0, 1, 0, 1, 0));
        fails(ARGUMENT, () -> x.edge(0, 0, 0, 0, 1, 0));
        fails(ARGUMENT, () -> x.edge(0, 0, 1, 2, 1, 0));
        fails(PLACE, () -> x.edge(1, 0, 0, 0, 1, 0));
        due(x.edges(0), 16);

        promise = 4;
        CutsetWorks y = ring();
        for (int bad : BAD_NETS) {
            fails(PLACE, () -> y.change(bad, 0, 5, 4, 0));
        }
        fails(PLACE, () -> y.change(0, -1, 5, 4, 0));
        fails(PLACE, () -> y.change(0, 3, 5, 4, 0));
        long before = y.checksum(0);
        fails(ARGUMENT, () -> y.change(0, 0, -1, 4, 0));
        fails(ARGUMENT, () -> y.change(0, 0, 0, 100, 0));
        fails(ARGUMENT, () -> y.change(0, 0, 5, 4, 0));
        fails(ARGUMENT, () -> y.change(0, 0, 0, 4, 21));
        fails(ARGUMENT, () -> y.change(0, 0, 0, 4, -21));
        due(y.checksum(0), before);
        due(y.change(0, 1, 0, 99, 20), 4);
        due(y.change(0, 1, 99, 99, -20), 99);
        due(y.change(0, 1, 3, 4, 2), 99);
        due(y.checksum(0), before);
        due(y.change(0, 0, 2, 7, -3), 5);
        due(y.change(0, 1, 3, 7, 2), 4);
        due(y.most(0, 0, 2), 7);
        due(y.cost(0, 0, 2), -7);
    }

    private static void dropsAndSupplies() {
        promise = 5;
        CutsetWorks x = diamond();
        for (int bad : BAD_NETS) {
            fails(PLACE, () -> x.drop(bad, 0));
        }
        fails(PLACE, () -> x.drop(0, -1));
        fails(PLACE, () -> x.drop(0, 5));
        due(x.drop(0, 0), 4);
        due(x.checksum(0), with(4, e(0, 2, 0, 2, 4), e(1, 2, 0, 2, 0), e(1, 3, 0, 2, 5), e(2, 3, 0, 4, 1)).checksum(0));
        due(x.flow(0, 0, 3, 3), 2);
        due(x.drop(0, 1), 3);
        due(x.drop(0, 2), 2);
        fails(PLACE, () -> x.drop(0, 2));
        due(x.edge(0, 3, 0, 1, 2, 3), 2);
        due(x.drop(0, 0), 2);
        due(x.drop(0, 0), 1);
        due(x.drop(0, 0), 0);
        fails(PLACE, () -> x.drop(0, 0));
        due(x.edges(0), 0);

        promise = 7;
        CutsetWorks y = new CutsetWorks();
        y.net(3);
        for (int bad : BAD_NETS) {
            fails(PLACE, () -> y.supply(bad, 0, 100));
        }
        fails(PLACE, () -> y.supply(0, -1, 100));
        fails(PLACE, () -> y.supply(0, 3, 0));
        fails(ARGUMENT, () -> y.supply(0, 2, 100));
        fails(ARGUMENT, () -> y.supply(0, 2, -100));
        due(y.supply(0, 2, 99), 0);
        due(y.supply(0, 2, -99), 99);
        fails(ARGUMENT, () -> y.supply(0, 2, Integer.MIN_VALUE));
        due(y.supply(0, 2, 4), -99);
        due(y.supply(0, 1, 4), 0);
        due(y.checksum(0), (7L * 31 * 31 + 4) * 31 + 4);
    }

    /** The exceptions that all calls with a net, a source and a sink have in common. */
    private interface Ends {
        Object on(int net, int source, int sink);
    }

    private static void badEnds(int corners, Ends call) {
        for (int bad : BAD_NETS) {
            fails(PLACE, () -> call.on(bad, 0, 0));
        }
        for (int bad : new int[] {-1, corners, Integer.MIN_VALUE, Integer.MAX_VALUE}) {
            fails(ARGUMENT, () -> call.on(0, bad, 1));
            fails(ARGUMENT, () -> call.on(0, 0, bad));
        }
        fails(ARGUMENT, () -> call.on(0, 1, 1));
    }

    /** Those of all that have an edge besides: it is looked at ahead of the corners. */
    private interface EndsAndEdge {
        Object on(int net, int source, int sink, int edge);
    }

    private static void badEdges(int corners, int edges, EndsAndEdge call) {
        badEnds(corners, (net, source, sink) -> call.on(net, source, sink, 0));
        for (int bad : new int[] {-1, edges, Integer.MIN_VALUE, Integer.MAX_VALUE}) {
            fails(PLACE, () -> call.on(0, 0, 1, bad));
            fails(PLACE, () -> call.on(0, 0, 0, bad));
            fails(PLACE, () -> call.on(0, -1, 0, bad));
        }
    }

    private static void greatestFlows() {
        CutsetWorks x = diamond();
        CutsetWorks y = ring();
        promise = 8;
        badEnds(3, y::most);
        due(x.most(0, 0, 3), 5);
        due(x.most(0, 3, 0), 0);
        due(x.most(0, 1, 3), 4);
        due(y.most(0, 0, 2), 4);
        due(y.most(0, 2, 0), -2);
        fails(NONE, () -> y.most(0, 1, 2));
        due(new CutsetWorks().net(2), 0);
        due(with(2).most(0, 1, 0), 0);
        due(with(2, e(0, 1, 0, 99, 0), e(0, 1, 0, 99, 0), e(1, 0, 5, 99, 0)).most(0, 0, 1), 193);

        promise = 9;
        badEdges(3, 3, y::flow);
        int[] flows = {3, 2, 1, 2, 3};
        for (int edge = 0; edge < 5; edge++) {
            due(x.flow(0, 0, 3, edge), flows[edge]);
        }
        due(y.flow(0, 0, 2, 0), 4);
        due(y.flow(0, 2, 0, 0), 3);
        due(y.flow(0, 2, 0, 2), 1);
        fails(NONE, () -> y.flow(0, 1, 2, 0));
        fails(PLACE, () -> y.flow(0, 1, 2, 3));
        CutsetWorks z = with(3, e(0, 1, 0, 5, 0), e(0, 1, 1, 5, 0), e(1, 2, 0, 7, 0));
        due(z.flow(0, 0, 2, 0), 2);
        due(z.flow(0, 0, 2, 1), 5);
        z.change(0, 2, 0, 3, 0);
        due(z.flow(0, 0, 2, 0), 0);
        due(z.flow(0, 0, 2, 1), 3);
        // a ring that nothing needs stays empty, but for what its edges must have
        CutsetWorks r = with(4, e(0, 1, 0, 1, 0), e(2, 3, 0, 9, 0), e(3, 2, 2, 9, 0));
        due(r.flow(0, 0, 1, 1), 2);
        due(r.flow(0, 0, 1, 2), 2);
    }

    private static void crowdsAndCuts() {
        CutsetWorks y = ring();
        promise = 10;
        badEnds(3, y::crowd);
        due(y.crowd(0, 1, 2), 1);
        fails(NONE, () -> y.crowd(0, 0, 2));
        fails(NONE, () -> diamond().crowd(0, 0, 3));
        y.change(0, 1, 0, 1, 0);
        due(y.crowd(0, 0, 2), 5);
        due(y.crowd(0, 2, 0), 5);
        // from 2 alone more must go than can come, and so from 2 and 3 together
        due(with(4, e(2, 0, 3, 4, 0), e(3, 2, 0, 1, 0), e(0, 1, 0, 9, 0)).crowd(0, 0, 1), 4);

        CutsetWorks line = with(3, e(0, 1, 0, 3, 0), e(1, 2, 0, 3, 0));
        CutsetWorks two = with(4, e(0, 1, 0, 1, 0), e(1, 3, 0, 1, 0), e(0, 2, 0, 1, 0), e(2, 3, 0, 1, 0));
        CutsetWorks x = ring();
        promise = 11;
        badEnds(3, (net, s, t) -> x.cut(net, s, t, false));
        badEnds(3, (net, s, t) -> x.cut(net, s, t, true));
        due(line.cut(0, 0, 2, false), 1);
        due(line.cut(0, 0, 2, true), 3);
        due(line.cut(0, 2, 0, false), 4);
        due(line.cut(0, 2, 0, true), 6);
        due(two.cut(0, 0, 3, false), 1);
        due(two.cut(0, 0, 3, true), 7);
        due(x.cut(0, 0, 2, false), 3);
        due(x.cut(0, 0, 2, true), 3);
        fails(NONE, () -> x.cut(0, 1, 2, true));
        fails(NONE, () -> x.cut(0, 1, 2, false));

        promise = 12;
        badEnds(3, (net, s, t) -> x.cutSum(net, s, t, 1));
        due(x.cutSum(0, 0, 2, 1), 5);
        due(x.cutSum(0, 0, 2, 3), 4);
        due(x.cutSum(0, 1, 2, 2), 2);
        due(x.cutSum(0, 1, 2, 3), 4);
        due(x.cutSum(0, 2, 0, 4), -2);
        for (int bad : new int[] {0, 2, 4, 5, 7, 8, 9, -1, -7, 1 + 16, Integer.MAX_VALUE, Integer.MIN_VALUE + 1}) {
            fails(ARGUMENT, () -> x.cutSum(0, 0, 2, bad));
        }
        fails(PLACE, () -> x.cutSum(1, 0, 2, 0));

        promise = 13;
        badEnds(3, x::cuts);
        due(line.cuts(0, 0, 2), 2);
        due(two.cuts(0, 0, 3), 4);
        due(x.cuts(0, 0, 2), 1);
        due(with(8).cuts(0, 3, 5), 64);
        fails(NONE, () -> x.cuts(0, 1, 2));
    }

    private static void fullEdges() {
        CutsetWorks x = diamond();
        promise = 14;
        badEdges(3, 3, ring()::isFull);
        due(x.isFull(0, 0, 3, 0), true);
        due(x.isFull(0, 0, 3, 1), true);
        due(x.isFull(0, 0, 3, 2), false);
        due(x.isFull(0, 0, 3, 3), false);
        due(x.isFull(0, 0, 3, 4), false);
        due(x.isFull(0, 3, 0, 0), false);
        due(with(2, e(0, 1, 0, 0, 0)).isFull(0, 1, 0, 0), true);
        due(with(3, e(0, 1, 4, 4, 0), e(1, 0, 4, 5, 0), e(1, 2, 0, 1, 0)).isFull(0, 0, 1, 0), true);
        // both may have 3, but not in each greatest flow
        CutsetWorks z = with(3, e(0, 1, 0, 3, 0), e(0, 1, 0, 3, 0), e(1, 2, 0, 5, 0));
        due(z.isFull(0, 0, 2, 0), false);
        due(z.isFull(0, 0, 2, 1), false);
        due(z.flow(0, 0, 2, 1), 3);
        due(z.isFull(0, 0, 2, 2), true);
        fails(NONE, () -> ring().isFull(0, 1, 2, 0));
        fails(PLACE, () -> ring().isFull(0, 1, 2, 3));
    }

    private static void rounds() {
        CutsetWorks x = diamond();
        CutsetWorks back = with(6, e(0, 1, 0, 1, 0), e(1, 2, 0, 1, 0), e(2, 3, 0, 1, 0), e(0, 4, 0, 1, 0),
                e(4, 2, 0, 1, 0), e(1, 5, 0, 1, 0), e(5, 3, 0, 1, 0));
        CutsetWorks y = ring();
        promise = 15;
        badEnds(3, y::rounds);
        due(x.rounds(0, 0, 3), 3);
        due(x.rounds(0, 3, 0), 0);
        due(x.rounds(0, 1, 3), 2);
        due(back.rounds(0, 0, 3), 2);
        due(with(2).rounds(0, 0, 1), 0);
        fails(UNSUPPORTED, () -> y.rounds(0, 0, 2));
        fails(UNSUPPORTED, () -> y.rounds(0, 1, 2));

        promise = 16;
        badEnds(3, (net, s, t) -> y.roundAmount(net, s, t, 0));
        due(x.roundAmount(0, 0, 3, 0), 2);
        due(x.roundAmount(0, 0, 3, 1), 2);
        due(x.roundAmount(0, 0, 3, 2), 1);
        for (int bad : new int[] {-1, 3, Integer.MIN_VALUE, Integer.MAX_VALUE}) {
            fails(NONE, () -> x.roundAmount(0, 0, 3, bad));
            fails(UNSUPPORTED, () -> y.roundAmount(0, 0, 2, bad));
            fails(NONE, () -> x.roundSign(0, 0, 3, bad, 0));
        }
        due(back.roundAmount(0, 0, 3, 1), 1);

        promise = 17;
        badEnds(3, (net, s, t) -> y.roundSign(net, s, t, 0, 0));
        int[][] signs = {{0, 3}, {1, 4}, {0, 2, 4}};
        int[][] backSigns = {{0, 1, 2}, {3, 4, 17, 5, 6}};
        for (int round = 0; round < 3; round++) {
            int r = round;
            for (int index = 0; index < signs[r].length; index++) {
                due(x.roundSign(0, 0, 3, r, index), signs[r][index]);
            }
            for (int bad : new int[] {-1, signs[r].length, Integer.MIN_VALUE, Integer.MAX_VALUE}) {
                fails(NONE, () -> x.roundSign(0, 0, 3, r, bad));
            }
        }
        for (int round = 0; round < 2; round++) {
            for (int index = 0; index < backSigns[round].length; index++) {
                due(back.roundSign(0, 0, 3, round, index), backSigns[round][index]);
            }
        }
        fails(NONE, () -> back.roundSign(0, 0, 3, 1, 5));
        // the edge 0 backward is 16
        CutsetWorks first = with(6, e(1, 2, 0, 1, 0), e(0, 1, 0, 1, 0), e(2, 3, 0, 1, 0), e(0, 4, 0, 1, 0),
                e(4, 2, 0, 1, 0), e(1, 5, 0, 1, 0), e(5, 3, 0, 1, 0));
        int[] firstSigns = {3, 4, 16, 5, 6};
        for (int index = 0; index < 5; index++) {
            due(first.roundSign(0, 0, 3, 1, index), firstSigns[index]);
        }
        // two edges can be gone along backward: the one with the less number is told
        CutsetWorks both = with(6, e(0, 1, 0, 2, 0), e(1, 2, 0, 1, 0), e(1, 2, 0, 1, 0), e(2, 3, 0, 2, 0),
                e(0, 4, 0, 1, 0), e(4, 2, 0, 1, 0), e(1, 5, 0, 1, 0), e(5, 3, 0, 1, 0));
        int[][] bothSigns = {{0, 1, 3}, {0, 2, 3}, {4, 5, 17, 6, 7}};
        for (int round = 0; round < 3; round++) {
            for (int index = 0; index < bothSigns[round].length; index++) {
                due(both.roundSign(0, 0, 3, round, index), bothSigns[round][index]);
            }
        }
        fails(UNSUPPORTED, () -> y.roundSign(0, 0, 2, -1, -1));
    }

    private static CutsetWorks alike(int oneCost, int otherCost) {
        return with(4, e(0, 1, 0, 2, oneCost), e(0, 1, 0, 2, otherCost), e(1, 2, 0, 3, 0));
    }

    private static void costs() {
        CutsetWorks x = diamond();
        CutsetWorks y = ring();
        CutsetWorks turning = with(3, e(0, 1, 0, 5, 0), e(1, 2, 0, 5, -1), e(2, 1, 0, 3, -1));
        promise = 18;
        badEnds(3, y::cost);
        due(x.cost(0, 0, 3), 20 + 5 - 5);
        due(alike(1, 3).cost(0, 0, 2), 5);
        due(alike(3, 1).cost(0, 0, 2), 5);
        due(alike(-20, -20).cost(0, 0, 2), -60);
        due(turning.cost(0, 0, 1), -6);
        due(turning.cost(0, 1, 0), -6);
        due(y.cost(0, 0, 2), -4);
        due(y.cost(0, 2, 0), -3);
        fails(NONE, () -> y.cost(0, 1, 2));

        promise = 19;
        badEdges(3, 3, y::cheapest);
        due(alike(1, 3).cheapest(0, 0, 2, 0), 2);
        due(alike(1, 3).cheapest(0, 0, 2, 1), 1);
        due(alike(3, 1).cheapest(0, 0, 2, 0), 1);
        due(alike(2, 2).cheapest(0, 0, 2, 0), 1);
        due(alike(2, 2).cheapest(0, 0, 2, 1), 2);
        due(x.cheapest(0, 0, 3, 3), 1);
        due(x.cheapest(0, 0, 3, 2), 2);
        due(turning.cheapest(0, 0, 1, 0), 5);
        due(turning.cheapest(0, 0, 1, 1), 3);
        due(turning.cheapest(0, 0, 1, 2), 3);
        due(turning.flow(0, 0, 1, 1), 0);
        due(with(4, e(0, 1, 0, 1, 0), e(2, 3, 0, 9, 5), e(3, 2, 2, 9, -5)).cheapest(0, 0, 1, 2), 2);
        due(y.cheapest(0, 0, 2, 0), 4);
        fails(NONE, () -> y.cheapest(0, 1, 2, 0));
        fails(PLACE, () -> y.cheapest(0, 1, 2, 3));
    }

    private static void prices() {
        CutsetWorks y = ring();
        CutsetWorks turning = with(3, e(0, 1, 0, 5, 0), e(1, 2, 0, 5, -1), e(2, 1, 0, 3, -1));
        promise = 20;
        badEnds(3, (net, s, t) -> y.price(net, s, t, 0));
        for (int bad : new int[] {-1, 3, Integer.MIN_VALUE, Integer.MAX_VALUE}) {
            fails(PLACE, () -> y.price(0, 0, 2, bad));
            fails(PLACE, () -> y.price(0, 0, 0, bad));
        }
        due(alike(1, 3).price(0, 0, 2, 0), 0);
        due(alike(1, 3).price(0, 0, 2, 1), 3);
        fails(NONE, () -> alike(1, 3).price(0, 0, 2, 2));
        fails(NONE, () -> alike(1, 3).price(0, 0, 2, 3));
        due(turning.price(0, 1, 0, 1), 0);
        due(turning.price(0, 1, 0, 2), -1);
        fails(NONE, () -> turning.price(0, 1, 0, 0));
        // the flow cannot get more, but what it has could come back: from 1 to 0, and from 0 to 2
        CutsetWorks z = with(3, e(0, 2, 0, 9, 7), e(0, 1, 0, 4, 2), e(2, 1, 0, 3, -6));
        due(z.cost(0, 0, 1), 4 * 2 + 3 * (7 - 6));
        due(z.price(0, 0, 1, 2), 7);
        fails(NONE, () -> z.price(0, 0, 1, 1));
        fails(NONE, () -> y.price(0, 1, 2, 0));
        fails(PLACE, () -> y.price(0, 1, 2, 3));
    }

    private static CutsetWorks waist() {
        return with(7, e(0, 1, 0, 9, 0), e(0, 2, 0, 9, 0), e(1, 3, 0, 9, 0), e(2, 3, 0, 9, 0), e(3, 4, 0, 9, 0),
                e(3, 5, 0, 9, 0), e(4, 6, 0, 9, 0), e(5, 6, 0, 9, 0));
    }

    private static void ways() {
        CutsetWorks x = waist();
        CutsetWorks straight = with(3, e(0, 1, 0, 9, 0), e(0, 1, 1, 1, 0), e(0, 1, 0, 0, 0), e(0, 2, 0, 3, 0),
                e(2, 1, 0, 3, 0), e(0, 2, 0, 3, 0), e(2, 1, 0, 3, 0));
        CutsetWorks shut = with(2, e(0, 1, 0, 0, 0), e(1, 0, 0, 1, 0));
        promise = 21;
        badEnds(7, x::edgeWays);
        due(x.edgeWays(0, 0, 6), 2);
        due(x.edgeWays(0, 6, 0), 0);
        due(diamond().edgeWays(0, 0, 3), 2);
        due(straight.edgeWays(0, 0, 1), 4);
        due(shut.edgeWays(0, 0, 1), 0);
        due(shut.edgeWays(0, 1, 0), 1);

        promise = 22;
        badEnds(7, x::cornerWays);
        due(x.cornerWays(0, 0, 6), 1);
        due(x.cornerWays(0, 0, 3), 2);
        due(x.cornerWays(0, 6, 0), 0);
        due(straight.cornerWays(0, 0, 1), 3);
        due(shut.cornerWays(0, 0, 1), 0);

        promise = 23;
        badEnds(7, x::apart);
        due(x.apart(0, 0, 6), 8);
        due(x.apart(0, 6, 0), 0);
        due(x.apart(0, 0, 3), 6);
        due(diamond().apart(0, 0, 3), 6);
        due(with(4, e(0, 1, 0, 1, 0), e(1, 2, 0, 1, 0), e(2, 3, 0, 1, 0)).apart(0, 0, 3), 2);
        due(shut.apart(0, 0, 1), 0);
        fails(UNSUPPORTED, () -> shut.apart(0, 1, 0));
        fails(UNSUPPORTED, () -> straight.apart(0, 0, 1));
        due(straight.apart(0, 1, 0), 0);
        fails(ARGUMENT, () -> straight.apart(0, 0, 0));
    }

    private static void widerAndWithout() {
        CutsetWorks x = diamond();
        CutsetWorks none = with(3, e(0, 1, 3, 3, 0), e(1, 2, 0, 2, 0));
        promise = 24;
        badEdges(4, 5, x::wider);
        due(x.wider(0, 0, 3, 0), 6);
        due(x.wider(0, 0, 3, 1), 6);
        due(x.wider(0, 0, 3, 2), 5);
        due(with(2, e(0, 1, 0, 99, 0)).wider(0, 0, 1, 0), 100);
        due(none.wider(0, 0, 2, 1), 3);
        fails(NONE, () -> none.wider(0, 0, 2, 0));
        fails(NONE, () -> none.most(0, 0, 2));
        due(x.most(0, 0, 3), 5);
        due(x.checksum(0), diamond().checksum(0));

        promise = 25;
        badEdges(4, 5, x::without);
        due(x.without(0, 0, 3, 4), 2);
        due(x.without(0, 0, 3, 0), 2);
        due(x.without(0, 0, 3, 2), 4);
        due(none.without(0, 0, 2, 0), 0);
        fails(NONE, () -> none.without(0, 0, 2, 1));
        due(x.most(0, 0, 3), 5);
        due(x.edges(0), 5);
    }

    private static void demands() {
        promise = 26;
        CutsetWorks x = with(2, e(0, 1, 0, 5, 0), e(0, 1, 0, 2, 0));
        for (int bad : BAD_NETS) {
            fails(PLACE, () -> x.holds(bad));
            fails(PLACE, () -> x.meets(bad, 0));
            fails(PLACE, () -> x.breaks(bad));
        }
        due(x.holds(0), true);
        due(with(8).holds(0), true);
        x.supply(0, 0, 3);
        due(x.holds(0), false);
        x.supply(0, 1, -3);
        due(x.holds(0), true);

        promise = 27;
        due(x.meets(0, 0), 1);
        due(x.meets(0, 1), 2);
        for (int bad : new int[] {-1, 2, Integer.MIN_VALUE, Integer.MAX_VALUE}) {
            fails(PLACE, () -> x.meets(0, bad));
        }

        promise = 28;
        fails(NONE, () -> x.breaks(0));
        x.supply(0, 1, -2);
        due(x.breaks(0), 3);
        fails(NONE, () -> x.meets(0, 0));
        fails(PLACE, () -> x.meets(0, 2));
        x.supply(0, 0, 8);
        x.supply(0, 1, -8);
        due(x.breaks(0), 1);
        due(x.holds(0), false);
        CutsetWorks y = with(3, e(2, 1, 4, 5, 0));
        y.supply(0, 2, 3);
        y.supply(0, 1, -3);
        due(y.breaks(0), 2);
        y.supply(0, 1, -4);
        y.supply(0, 2, 4);
        due(y.holds(0), true);
        due(y.meets(0, 0), 4);
        // a ring that nothing wants stays empty, and what is wanted goes the way of the last edges
        CutsetWorks z = with(3, e(0, 1, 0, 9, 0), e(1, 2, 0, 9, 0), e(2, 0, 1, 9, 0), e(0, 2, 0, 9, 0));
        z.supply(0, 0, 2);
        z.supply(0, 2, -2);
        due(z.meets(0, 0), 0);
        due(z.meets(0, 2), 1);
        due(z.meets(0, 3), 3);
    }

    private static void tree() {
        promise = 29;
        CutsetWorks x = with(4, e(1, 0, 0, 5, 0), e(1, 2, 2, 3, 0), e(3, 2, 0, 4, 0));
        for (int bad : BAD_NETS) {
            fails(PLACE, () -> x.parent(bad, 0));
        }
        for (int bad : new int[] {-1, 4, Integer.MIN_VALUE, Integer.MAX_VALUE}) {
            fails(PLACE, () -> x.parent(0, bad));
        }
        fails(NONE, () -> x.parent(0, 0));
        due(x.parent(0, 1), 0);
        due(x.parent(0, 2), 1);
        due(x.parent(0, 3), 2);
        for (int corner = 1; corner < 8; corner++) {
            due(with(8).parent(0, corner), 0);
        }
        // 2 lies beyond 1 in one least cut, but not in all
        CutsetWorks even = with(3, e(0, 1, 0, 2, 0), e(1, 2, 0, 1, 0), e(0, 2, 0, 1, 0));
        due(even.parent(0, 2), 0);
        due(diamond().parent(0, 2), 1);

        promise = 30;
        badEnds(4, x::between);
        due(x.between(0, 0, 3), 3);
        due(x.between(0, 3, 0), 3);
        due(x.between(0, 0, 1), 5);
        due(x.between(0, 2, 3), 4);
        due(diamond().between(0, 0, 3), 5);
        due(with(2).between(0, 1, 0), 0);
    }

    private static void steps() {
        promise = 31;
        CutsetWorks x = diamond();
        badEnds(4, (net, s, t) -> x.inSteps(net, s, t, 3));
        int[] there = {0, 0, 4, 9, 14, 19, 24, 29, 34};
        for (int step = 0; step <= 8; step++) {
            due(x.inSteps(0, 0, 3, step), there[step]);
            due(x.inSteps(0, 3, 0, step), 0);
        }
        for (int bad : new int[] {-1, 9, Integer.MIN_VALUE, Integer.MAX_VALUE}) {
            fails(ARGUMENT, () -> x.inSteps(0, 0, 3, bad));
            fails(PLACE, () -> x.inSteps(1, 0, 3, bad));
        }
        // leasts do not count here
        CutsetWorks y = with(3, e(0, 1, 5, 5, -20), e(1, 2, 0, 2, 20));
        due(y.inSteps(0, 0, 2, 3), 4);
        due(y.inSteps(0, 0, 1, 1), 5);
        due(y.inSteps(0, 0, 1, 8), 40);
    }

    private static void pairs() {
        CutsetWorks x = new CutsetWorks();
        promise = 32;
        fails(PLACE, () -> x.likes(-1, -1));
        fails(PLACE, () -> x.likes(8, 0));
        fails(ARGUMENT, () -> x.likes(0, -1));
        fails(ARGUMENT, () -> x.likes(0, 256));
        due(x.likes(0, 255), 0);
        due(x.likes(0, 3), 255);
        due(x.likes(1, 3), 0);
        promise = 33;
        due(x.pairs(), 2);
        x.likes(2, 2);
        due(x.pairs(), 2);
        promise = 34;
        due(x.pairOf(0), 0);
        due(x.pairOf(1), 1);
        fails(NONE, () -> x.pairOf(2));
        fails(NONE, () -> x.pairOf(7));
        fails(PLACE, () -> x.pairOf(-1));
        fails(PLACE, () -> x.pairOf(8));
        x.likes(0, 7);
        due(x.pairs(), 3);
        due(x.pairOf(0), 2);
        due(x.pairOf(1), 0);
        due(x.pairOf(2), 1);
        promise = 35;
        due(x.cover(true), 0);
        due(x.cover(false), 7);
        x.likes(0, 31);
        due(x.cover(true), 1);
        due(x.cover(false), 3);
        x.likes(0, 7);
        promise = 36;
        due(x.crowdOfLeft(), 248);
        x.likes(0, 3);
        due(x.crowdOfLeft(), 255);
        CutsetWorks y = new CutsetWorks();
        due(y.cover(true), 0);
        due(y.cover(false), 0);
        due(y.crowdOfLeft(), 255);
        for (int left = 0; left < 8; left++) {
            y.likes(left, 1 << 7 - left | 128);
        }
        due(y.pairs(), 8);
        fails(NONE, () -> y.crowdOfLeft());
        due(y.cover(true), 0);
        due(y.cover(false), 255);
        due(y.pairOf(0), 7);
        due(y.pairOf(7), 0);
        y.likes(5, 128);
        due(y.pairs(), 7);
        due(y.crowdOfLeft(), 33);
        due(y.pairOf(0), 7);
        fails(NONE, () -> y.pairOf(5));
    }

    private static void league() {
        CutsetWorks x = new CutsetWorks();
        promise = 37;
        fails(ARGUMENT, () -> x.team(-1));
        fails(ARGUMENT, () -> x.team(100));
        due(x.team(99), 0);
        for (int team = 1; team < 6; team++) {
            due(x.team(0), team);
        }
        fails(STATE, () -> x.team(0));
        fails(ARGUMENT, () -> x.team(100));

        CutsetWorks y = new CutsetWorks();
        y.team(5);
        y.team(6);
        promise = 38;
        for (int bad : new int[] {-1, 2, Integer.MIN_VALUE, Integer.MAX_VALUE}) {
            fails(PLACE, () -> y.games(bad, 0, 10));
            fails(PLACE, () -> y.games(0, bad, 0));
            fails(PLACE, () -> y.games(bad, bad, 0));
        }
        fails(ARGUMENT, () -> y.games(1, 1, 0));
        fails(ARGUMENT, () -> y.games(0, 1, -1));
        fails(ARGUMENT, () -> y.games(0, 1, 10));
        due(y.games(0, 1, 9), 0);
        due(y.games(1, 0, 0), 9);

        promise = 39;
        due(y.canWin(0), false);
        due(y.canWin(1), true);
        for (int bad : new int[] {-1, 2, Integer.MIN_VALUE, Integer.MAX_VALUE}) {
            fails(PLACE, () -> y.canWin(bad));
            fails(PLACE, () -> y.against(bad));
        }
        due(y.games(0, 1, 1), 0);
        due(y.canWin(0), true);

        promise = 40;
        fails(NONE, () -> y.against(0));
        due(y.games(0, 1, 0), 1);
        due(y.against(0), 2);
        fails(NONE, () -> y.against(1));
        // 6 and 6, and one game between both: one of them gets 7
        y.team(6);
        y.games(0, 1, 1);
        due(y.canWin(0), true);
        y.games(1, 2, 1);
        due(y.canWin(0), false);
        due(y.against(0), 6);
        y.games(0, 2, 1);
        due(y.canWin(0), true);
        due(x.canWin(0), true);
        due(x.against(3), 1);
    }

    private static void table() {
        CutsetWorks x = new CutsetWorks();
        promise = 41;
        fails(ARGUMENT, () -> x.table(0, 1));
        fails(ARGUMENT, () -> x.table(5, 1));
        fails(ARGUMENT, () -> x.table(1, 0));
        fails(ARGUMENT, () -> x.table(1, 5));
        x.tell(0, 0, 17);
        fails(ARGUMENT, () -> x.table(-1, 9));
        due(x.tell(0, 0, 17), 17);
        due(x.table(1, 4), 4);
        due(x.tell(0, 0, 5), 0);
        due(x.table(4, 4), 16);
        due(x.table(1, 4), 4);
        promise = 42;
        fails(PLACE, () -> x.tell(-1, 0, 0));
        fails(PLACE, () -> x.tell(1, 0, 1000));
        fails(PLACE, () -> x.tell(0, 4, 0));
        fails(PLACE, () -> x.tell(0, -1, -1));
        fails(ARGUMENT, () -> x.tell(0, 0, -1));
        fails(ARGUMENT, () -> x.tell(0, 0, 1000));
        for (int column = 0; column < 4; column++) {
            due(x.tell(0, column, 5), 0);
        }
        promise = 43;
        fails(PLACE, () -> x.rounded(1, 0));
        fails(PLACE, () -> x.rounded(0, 4));
        fails(PLACE, () -> x.rounded(-1, 0));
        fails(PLACE, () -> x.rounded(0, Integer.MIN_VALUE));
        for (int column = 0; column < 4; column++) {
            due(x.rounded(0, column), column / 2);
        }
        x.table(1, 1);
        x.tell(0, 0, 999);
        due(x.rounded(0, 0), 99);
        x.tell(0, 0, 990);
        due(x.rounded(0, 0), 99);
        x.table(2, 2);
        x.tell(0, 0, 20);
        x.tell(0, 1, 5);
        x.tell(1, 0, 5);
        x.tell(1, 1, 995);
        // the column on the right is 100 exactly, the sum 102.5
        due(x.rounded(0, 0), 2);
        due(x.rounded(0, 1), 0);
        due(x.rounded(1, 0), 0);
        due(x.rounded(1, 1), 100);
    }

    private static void projects() {
        CutsetWorks x = new CutsetWorks();
        promise = 44;
        fails(ARGUMENT, () -> x.project(-1, 0));
        fails(ARGUMENT, () -> x.project(100, 0));
        fails(ARGUMENT, () -> x.project(0, -1));
        fails(ARGUMENT, () -> x.project(0, 256));
        due(x.project(99, 255), 0);
        for (int number = 1; number < 8; number++) {
            due(x.project(0, 0), number);
        }
        fails(STATE, () -> x.project(0, 0));
        fails(ARGUMENT, () -> x.project(0, 256));
        promise = 45;
        fails(PLACE, () -> x.toolCost(-1, 100));
        fails(PLACE, () -> x.toolCost(8, 0));
        fails(ARGUMENT, () -> x.toolCost(0, -1));
        fails(ARGUMENT, () -> x.toolCost(0, 100));
        due(x.toolCost(0, 99), 0);
        due(x.toolCost(0, 3), 99);
        promise = 46;
        due(x.best(), 96);
        promise = 47;
        due(x.chosen(false), 1);
        due(x.chosen(true), 255);

        CutsetWorks y = new CutsetWorks();
        promise = 46;
        y.project(10, 3);
        y.project(4, 2);
        y.toolCost(0, 3);
        y.toolCost(1, 9);
        due(y.best(), 2);
        y.project(7, 4);
        y.toolCost(2, 7);
        due(y.best(), 2);
        promise = 47;
        due(y.chosen(false), 3);
        due(y.chosen(true), 7);
        y.toolCost(1, 99);
        due(y.best(), 0);
        due(y.chosen(false), 0);
        due(y.chosen(true), 4);
        y.toolCost(2, 0);
        due(y.chosen(false), 4);
        y.toolCost(1, 0);
        due(y.chosen(true), 7);
    }

    private static void sums() {
        CutsetWorks x = diamond();
        CutsetWorks y = ring();
        promise = 48;
        for (int bad : BAD_NETS) {
            fails(PLACE, () -> x.checksum(bad));
        }
        CutsetWorks one = with(2, e(1, 0, 2, 3, -4));
        one.supply(0, 0, -5);
        one.supply(0, 1, 6);
        long sum = 7;
        for (int part : new int[] {1, 0, 2, 3, -4, -5, 6}) {
            sum = 31 * sum + part;
        }
        due(one.checksum(0), sum);

        promise = 49;
        badEnds(4, x::fullShare);
        due(x.fullShare(0, 0, 3), 3f / 5f);
        due(x.fullShare(0, 3, 0), 0f);
        due(with(2, e(0, 1, 0, 1, 0), e(0, 1, 0, 1, 0), e(1, 0, 0, 1, 0)).fullShare(0, 0, 1), 2f / 3f);
        fails(NONE, () -> with(2).fullShare(0, 0, 1));
        fails(ARGUMENT, () -> with(2).fullShare(0, 1, 1));
        fails(NONE, () -> y.fullShare(0, 1, 2));

        promise = 50;
        badEnds(4, x::meanFlow);
        due(x.meanFlow(0, 0, 3), 11.0 / 5.0);
        due(y.meanFlow(0, 2, 0), 7.0 / 3.0);
        fails(NONE, () -> with(2).meanFlow(0, 0, 1));
        fails(ARGUMENT, () -> with(2).meanFlow(0, 1, 1));
        fails(NONE, () -> y.meanFlow(0, 1, 2));
    }

    private static void sound() {
        promise = 51;
        due(new CutsetWorks().isSound(), true);
        due(diamond().isSound(), true);
        due(ring().isSound(), true);
        CutsetWorks x = with(3, e(0, 1, 3, 3, 0), e(1, 2, 0, 2, 0));
        x.net(8);
        x.net(2);
        x.edge(2, 0, 1, 1, 99, -20);
        x.likes(3, 17);
        x.table(3, 2);
        x.tell(2, 1, 15);
        x.tell(1, 1, 15);
        due(x.isSound(), true);
    }
}
