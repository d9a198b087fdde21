import java.math.BigInteger;
import java.util.Arrays;

/** Promises 1 to 7 and 48, and part 1. */
final class BoundsOfNets extends Calls {
    private static final int[] NO_INDEX = {-1, 4, 5, 8, 32, 256, 65536, LEAST, GREATEST, LEAST + 1, -4, -32};

    private BoundsOfNets() {
    }

    static void test() {
        newObject();
        netsAreFour();
        corners();
        netNumbers();
        edgesAreSixteen();
        edgeBounds();
        edgeRefused();
        change();
        changeRefused();
        drop();
        dropRefused();
        edges();
        supply();
        supplyRefused();
        supplyCountsInPartFiveAlone();
        setsAreBits();
        checksum();
    }

    private static void newObject() {
        promise(1, "Creates a works without nets, teams and projects, with a table of one number.");
        for (OfNet call : OF_NETS) {
            asks(empty(), PLACE, x -> call.on(x, 0));
        }
        asks(empty(), PLACE, x -> x.canWin(0));
        asks(empty(), PLACE, x -> x.against(0));
        asks(empty(), PLACE, x -> x.games(0, 0, 0));
        asks(empty(), 0, CutsetWorks::best);
        asks(empty(), 0, x -> x.chosen(false));
        asks(empty(), 0, x -> x.chosen(true));
        asks(empty(), 0, x -> x.tell(0, 0, 999));
        asks(empty(), 0, x -> x.rounded(0, 0));
        asks(empty(), PLACE, x -> x.tell(0, 1, 0));
        asks(empty(), PLACE, x -> x.tell(1, 0, 0));
        asks(empty(), PLACE, x -> x.rounded(0, 1));
        asks(empty(), PLACE, x -> x.rounded(1, 0));
        asks(empty(), 0, x -> x.net(8));
        asks(empty(), 0, x -> x.team(99));
        asks(empty(), 0, x -> x.project(99, 255));
        asks(empty(), true, CutsetWorks::isSound);
        // what one object holds, another one does not
        CutsetWorks other = full();
        due(everything(empty()), everything(empty()));
        asks(empty(), PLACE, x -> x.edges(0));
        asks(other, 16, x -> x.edges(3));
    }

    private static void netsAreFour() {
        sentence("Part 1", "At most 4 nets are numbered from 0");
        CutsetWorks x = empty();
        for (int number = 0; number < 4; number++) {
            int net = number;
            asks(x, PLACE, w -> w.edges(net));
            asks(x, number, w -> w.net(2 + 2 * net));
            asks(x, 0, w -> w.edges(net));
        }
        asks(x, PLACE, w -> w.edges(4));
        asks(x, STATE, w -> w.net(2));
        // each of the four is a net of its own
        asks(x, 0, w -> w.edge(3, 7, 0, 0, 5, 0));
        asks(x, 5, w -> w.most(3, 7, 0));
        for (int number = 0; number < 3; number++) {
            int net = number;
            asks(x, 0, w -> w.edges(net));
            asks(x, 0, w -> w.most(net, 1, 0));
        }
        returning(2);
        asks(empty(), 0, w -> w.net(2));
        asks(some(), 2, w -> w.net(2));
        CutsetWorks three = some();
        three.net(5);
        asks(three, 3, w -> w.net(8));

        throwing(2, STATE);
        for (int corners = 2; corners <= 8; corners++) {
            int many = corners;
            refused(STATE, Bounds::full, w -> w.net(many));
            asks(three, STATE, w -> w.net(many));
        }
    }

    private static void corners() {
        promise(2, "- `corners`: 2 to 8");
        for (int corners = 2; corners <= 8; corners++) {
            int many = corners;
            CutsetWorks x = empty();
            asks(x, 0, w -> w.net(many));
            asks(x, 0, w -> w.supply(0, many - 1, 7));
            asks(x, PLACE, w -> w.supply(0, many, 7));
            asks(x, 1 << many - 2, w -> w.cuts(0, 0, 1));
            asks(x, 0, w -> w.edge(0, many - 1, 0, 0, 1, 0));
        }
        sentence("Part 1", "each with 2 to 8 corners, numbered from 0");
        asks(with(2), 1, x -> x.cuts(0, 0, 1));
        asks(with(8), 64, x -> x.cuts(0, 7, 0));
        asks(with(8), 0, x -> x.edge(0, 7, 0, 0, 0, 0));
        asks(with(8), ARGUMENT, x -> x.edge(0, 8, 0, 0, 0, 0));
        asks(with(2), 0, x -> x.edge(0, 0, 1, 0, 0, 0));
        asks(with(2), ARGUMENT, x -> x.edge(0, 0, 2, 0, 0, 0));

        throwing(2, ARGUMENT);
        for (int bad : new int[] {1, 9, 0, -1, -2, 10, 16, 34, 258, 65538, -8, LEAST, LEAST + 2, GREATEST}) {
            refused(ARGUMENT, Bounds::empty, x -> x.net(bad));
            refused(ARGUMENT, Bounds::some, x -> x.net(bad));
        }
    }

    /** A number just outside of those that there are, for none, one and four nets. */
    private static void netNumbers() {
        for (OfNet call : OF_NETS) {
            throwing(call.promise(), PLACE);
            for (int bad : NO_INDEX) {
                refused(PLACE, Bounds::full, x -> call.on(x, bad));
            }
            refused(PLACE, Bounds::diamond, x -> call.on(x, 1));
            refused(PLACE, Bounds::diamond, x -> call.on(x, -1));
            refused(PLACE, Bounds::some, x -> call.on(x, 2));
            refused(PLACE, Bounds::empty, x -> call.on(x, 0));
            due(answer(diamond(), x -> call.on(x, 0)) != PLACE, true);
            due(answer(full(), x -> call.on(x, 3)) != PLACE, true);
        }
    }

    private static void edgesAreSixteen() {
        sentence("Part 1", "and at most 16 edges, numbered from 0: an edge leads from a corner to another one");
        CutsetWorks x = with(3);
        x.net(3);
        for (int number = 0; number < 16; number++) {
            int edge = number;
            asks(x, PLACE, w -> w.change(0, edge, 0, 0, 0));
            asks(x, number, w -> w.edge(0, edge % 3, (edge + 1) % 3, 0, edge, 0));
            asks(x, number, w -> w.change(0, edge, 0, edge + 1, 0));
        }
        asks(x, PLACE, w -> w.change(0, 16, 0, 0, 0));
        asks(x, 16, w -> w.edges(0));
        asks(x, STATE, w -> w.edge(0, 0, 1, 0, 1, 0));
        // the other net has room of its own
        asks(x, 0, w -> w.edge(1, 0, 1, 0, 1, 0));
        asks(x, STATE, w -> w.edge(0, 2, 0, 99, 99, 20));
        // what is dropped makes room for one
        asks(x, 15, w -> w.drop(0, 0));
        asks(x, 15, w -> w.edge(0, 0, 1, 0, 1, 0));
        asks(x, STATE, w -> w.edge(0, 0, 1, 0, 1, 0));

        returning(3);
        asks(with(2), 0, w -> w.edge(0, 0, 1, 0, 1, 0));
        asks(many(15, e(0, 1, 1)), 15, w -> w.edge(0, 1, 0, 0, 1, 0));

        throwing(3, STATE);
        for (int net = 0; net < 4; net++) {
            int n = net;
            refused(STATE, Bounds::full, w -> w.edge(n, 0, 1, 0, 1, 0));
            refused(STATE, Bounds::full, w -> w.edge(n, 7, 6, 99, 99, -20));
        }
        refused(STATE, () -> many(16, e(0, 1, 1)), w -> w.edge(0, 0, 1, 0, 1, 0));
    }

    private static void edgeBounds() {
        sentence("Part 1", "has a least and a most, 0 to 99, the most not below the least, and a cost, -20 to 20.");
        int[][] goods = {{0, 0, 0}, {0, 99, 0}, {99, 99, 0}, {98, 99, 0}, {1, 1, 0}, {0, 1, 0}, {0, 0, -20},
            {0, 0, 20}, {0, 0, 19}, {0, 0, -19}, {50, 50, 1}, {99, 99, -20}};
        for (int[] g : goods) {
            CutsetWorks x = with(2);
            asks(x, 0, w -> w.edge(0, 1, 0, g[0], g[1], g[2]));
            asks(x, g[1], w -> w.most(0, 1, 0));
            asks(x, -g[0], w -> w.most(0, 0, 1));
            asks(x, g[1] * g[2], w -> w.cost(0, 1, 0));
            asks(x, with(2, e(1, 0, g[0], g[1], g[2])).checksum(0), w -> w.checksum(0));
            CutsetWorks y = with(2, e(1, 0, 3, 5, 7));
            asks(y, 5, w -> w.change(0, 0, g[0], g[1], g[2]));
            asks(y, x.checksum(0), w -> w.checksum(0));
        }
    }

    private static final int[][] BAD_NUMBERS = {{-1, 0, 0}, {-1, 99, 0}, {0, 100, 0}, {100, 100, 0}, {99, 100, 0},
        {1, 0, 0}, {99, 98, 0}, {99, 0, 0}, {51, 50, 0}, {0, 0, 21}, {0, 0, -21}, {0, 99, 21}, {0, 99, -21},
        {-1, -1, 0}, {-2, -1, 0}, {0, -1, 0}, {LEAST, 0, 0}, {LEAST, GREATEST, 0}, {0, GREATEST, 0}, {0, LEAST, 0},
        {GREATEST, GREATEST, 0}, {GREATEST, LEAST, 0}, {LEAST, LEAST, 0}, {0, 0, GREATEST}, {0, 0, LEAST},
        {0, 355, 0}, {256, 256, 0}, {0, 0, 256}, {0, 0, -256}, {0, 65536, 0}};

    private static void edgeRefused() {
        throwing(3, ARGUMENT);
        for (int[] b : BAD_NUMBERS) {
            refused(ARGUMENT, Bounds::some, x -> x.edge(0, 0, 1, b[0], b[1], b[2]));
        }
        for (int corners : new int[] {2, 4, 8}) {
            for (int corner : new int[] {-1, corners, corners + 1, 32, 256, -32, LEAST, GREATEST}) {
                refused(ARGUMENT, () -> with(corners), x -> x.edge(0, corner, 0, 0, 1, 0));
                refused(ARGUMENT, () -> with(corners), x -> x.edge(0, 0, corner, 0, 1, 0));
                refused(ARGUMENT, () -> with(corners), x -> x.edge(0, corners - 1, corner, 0, 1, 0));
                refused(ARGUMENT, () -> with(corners), x -> x.edge(0, corner, corner, 0, 1, 0));
            }
            for (int corner = 0; corner < corners; corner++) {
                int c = corner;
                refused(ARGUMENT, () -> with(corners), x -> x.edge(0, c, c, 0, 1, 0));
                asks(with(corners), 0, x -> x.edge(0, c, (c + 1) % corners, 0, 1, 0));
            }
        }
        promise(3, "- `net`: its number");
        asks(some(), 1, x -> x.edge(1, 0, 1, 0, 1, 0));
        first(3, ARGUMENT, Bounds::full, x -> x.edge(0, 0, 0, 0, 1, 0));
        first(3, ARGUMENT, Bounds::full, x -> x.edge(0, 0, 8, 0, 1, 0));
        first(3, ARGUMENT, Bounds::full, x -> x.edge(0, -1, 7, 0, 1, 0));
        for (int[] b : BAD_NUMBERS) {
            first(3, ARGUMENT, Bounds::full, x -> x.edge(3, 0, 1, b[0], b[1], b[2]));
            first(3, PLACE, Bounds::full, x -> x.edge(4, 0, 1, b[0], b[1], b[2]));
        }
        first(3, PLACE, Bounds::full, x -> x.edge(4, 0, 0, 0, 1, 0));
        first(3, PLACE, Bounds::full, x -> x.edge(-1, 9, -1, 5, 4, 21));
        first(3, PLACE, Bounds::empty, x -> x.edge(0, 0, 1, 5, 4, 0));
    }

    private static void change() {
        returning(4);
        CutsetWorks x = many(16, e(0, 1, 0, 4, 3));
        asks(x, 4, w -> w.change(0, 0, 0, 0, -20));
        asks(x, 0, w -> w.change(0, 0, 99, 99, 20));
        asks(x, 99, w -> w.change(0, 0, 0, 99, 0));
        asks(x, 99, w -> w.change(0, 0, 0, 98, 0));
        asks(x, 98, w -> w.change(0, 0, 0, 4, 3));
        asks(x, many(16, e(0, 1, 0, 4, 3)).checksum(0), w -> w.checksum(0));
        asks(x, 4, w -> w.change(0, 15, 0, 7, 3));
        asks(x, 15 * 4 + 7, w -> w.most(0, 0, 1));
        // it leads as before, and the ones beside it are as they were
        CutsetWorks y = with(3, e(0, 1, 1, 2, 3), e(1, 2, 2, 4, 5), e(2, 0, 3, 6, 7));
        asks(y, 4, w -> w.change(0, 1, 0, 99, -1));
        asks(y, with(3, e(0, 1, 1, 2, 3), e(1, 2, 0, 99, -1), e(2, 0, 3, 6, 7)).checksum(0), w -> w.checksum(0));
    }

    private static void changeRefused() {
        throwing(4, PLACE);
        for (int bad : new int[] {-1, 5, 6, 15, 16, 32, 256, LEAST, GREATEST}) {
            refused(PLACE, Bounds::diamond, x -> x.change(0, bad, 0, 1, 0));
            first(4, PLACE, Bounds::diamond, x -> x.change(0, bad, 5, 4, 21));
        }
        for (int bad : new int[] {-1, 16, 17, 32, LEAST, GREATEST}) {
            refused(PLACE, Bounds::full, x -> x.change(3, bad, 0, 1, 0));
        }
        refused(PLACE, () -> with(2), x -> x.change(0, 0, 0, 1, 0));
        throwing(4, ARGUMENT);
        for (int[] b : BAD_NUMBERS) {
            refused(ARGUMENT, Bounds::some, x -> x.change(0, 4, b[0], b[1], b[2]));
            first(4, PLACE, Bounds::some, x -> x.change(0, 5, b[0], b[1], b[2]));
            first(4, PLACE, Bounds::some, x -> x.change(2, 0, b[0], b[1], b[2]));
        }
    }

    private static void drop() {
        sentence("Part 1", "An edge that is dropped is gone, the later ones get numbers 1 lower.");
        for (int gone : new int[] {0, 1, 7, 14, 15}) {
            CutsetWorks x = numbered();
            asks(x, 15, w -> w.drop(0, gone));
            for (int edge = 0; edge < 15; edge++) {
                int e = edge;
                int old = edge < gone ? edge : edge + 1;
                asks(x, old, w -> w.change(0, e, 0, old, 0));
            }
            asks(x, PLACE, w -> w.change(0, 15, 0, 0, 0));
            asks(x, (15 * 16 / 2) - gone, w -> w.most(0, 0, 1));
        }
        // all that is told of an edge goes with its number
        CutsetWorks y = with(5, e(0, 1, 1, 2, 3), e(4, 3, 2, 4, 5), e(2, 0, 3, 6, -7), e(1, 4, 9, 9, 9));
        asks(y, 3, w -> w.drop(0, 1));
        asks(y, with(5, e(0, 1, 1, 2, 3), e(2, 0, 3, 6, -7), e(1, 4, 9, 9, 9)).checksum(0), w -> w.checksum(0));
        asks(y, 2, w -> w.drop(0, 2));
        asks(y, with(5, e(0, 1, 1, 2, 3), e(2, 0, 3, 6, -7)).checksum(0), w -> w.checksum(0));
        asks(y, 1, w -> w.drop(0, 0));
        asks(y, with(5, e(2, 0, 3, 6, -7)).checksum(0), w -> w.checksum(0));

        returning(5);
        CutsetWorks x = numbered();
        for (int left = 15; left >= 0; left--) {
            asks(x, left, w -> w.drop(0, 0));
        }
        asks(x, PLACE, w -> w.drop(0, 0));
        asks(x, 0, w -> w.most(0, 0, 1));
        asks(x, 0, w -> w.edge(0, 0, 1, 0, 3, 0));
        asks(x, 0, w -> w.drop(0, 0));
    }

    /** Sixteen edges, each with its number as its most. */
    private static CutsetWorks numbered() {
        CutsetWorks x = with(2);
        for (int edge = 0; edge < 16; edge++) {
            x.edge(0, 0, 1, 0, edge, 0);
        }
        return x;
    }

    private static void dropRefused() {
        throwing(5, PLACE);
        for (int bad : new int[] {-1, 5, 6, 15, 16, 32, 256, LEAST, GREATEST}) {
            refused(PLACE, Bounds::diamond, x -> x.drop(0, bad));
            refused(PLACE, Bounds::diamond, x -> x.drop(1, bad));
        }
        for (int bad : new int[] {-1, 16, 17, LEAST, GREATEST}) {
            refused(PLACE, Bounds::full, x -> x.drop(3, bad));
        }
        refused(PLACE, () -> with(2), x -> x.drop(0, 0));
        refused(PLACE, () -> with(2), x -> x.drop(0, -1));
    }

    private static void edges() {
        returning(6);
        asks(with(2), 0, x -> x.edges(0));
        asks(with(2, e(0, 1, 0)), 1, x -> x.edges(0));
        asks(many(15, e(0, 1, 0)), 15, x -> x.edges(0));
        asks(full(), 16, x -> x.edges(0));
        asks(full(), 16, x -> x.edges(3));
        CutsetWorks x = some();
        asks(x, 5, w -> w.edges(0));
        asks(x, 1, w -> w.edges(1));
        asks(x, ARGUMENT, w -> w.edge(1, 0, 0, 0, 1, 0));
        asks(x, PLACE, w -> w.drop(1, 1));
        asks(x, 1, w -> w.edges(1));
    }

    private static void supply() {
        promise(7, "- `amount`: -99 to 99");
        CutsetWorks x = with(8);
        for (int amount : new int[] {-99, 99, 0, 1, -1, 98, -98}) {
            asks(with(2), 0, w -> w.supply(0, 1, amount));
        }
        sentence("Part 1", "A corner has a supply, -99 to 99, 0 at first");
        for (int corner = 0; corner < 8; corner++) {
            int c = corner;
            asks(x, 0, w -> w.supply(0, c, c - 99));
        }
        asks(x, -92, w -> w.supply(0, 7, 99));
        asks(x, 99, w -> w.supply(0, 7, -99));
        asks(x, -99, w -> w.supply(0, 7, 0));
        asks(x, 0, w -> w.supply(0, 7, 0));
        asks(x, -99, w -> w.supply(0, 0, 0));
        returning(7);
        CutsetWorks two = some();
        asks(two, 3, w -> w.supply(1, 0, 5));
        asks(two, 5, w -> w.supply(1, 0, 5));
        asks(two, -3, w -> w.supply(1, 2, 5));
        asks(two, 0, w -> w.supply(1, 1, 5));
        asks(two, 0, w -> w.supply(0, 0, 5));
    }

    private static void supplyRefused() {
        throwing(7, PLACE);
        for (int corners : new int[] {2, 4, 8}) {
            for (int bad : new int[] {-1, corners, corners + 1, 8, 32, 256, LEAST, GREATEST}) {
                refused(PLACE, () -> with(corners), x -> x.supply(0, bad, 1));
                first(7, PLACE, () -> with(corners), x -> x.supply(0, bad, 100));
            }
        }
        throwing(7, ARGUMENT);
        for (int bad : new int[] {100, -100, 101, 355, 256, -256, 65536, LEAST, GREATEST, LEAST + 1}) {
            refused(ARGUMENT, Bounds::some, x -> x.supply(1, 0, bad));
            refused(ARGUMENT, Bounds::some, x -> x.supply(0, 3, bad));
            first(7, PLACE, Bounds::some, x -> x.supply(2, 0, bad));
            first(7, PLACE, Bounds::some, x -> x.supply(1, 3, bad));
            first(7, PLACE, Bounds::some, x -> x.supply(-1, -1, bad));
        }
    }

    private static void supplyCountsInPartFiveAlone() {
        sentence("Part 1", "which counts in part 5 alone");
        for (int amount : new int[] {99, -99, 1}) {
            CutsetWorks x = diamond();
            CutsetWorks without = diamond();
            asks(x, true, w -> w.holds(0));
            for (int corner = 0; corner < 4; corner++) {
                x.supply(0, corner, amount);
            }
            for (Ends call : ENDS) {
                asks(x, answer(without, w -> call.on(w, 0, 0, 3)), w -> call.on(w, 0, 0, 3));
            }
            for (OfEdge call : OF_EDGES) {
                asks(x, answer(without, w -> call.on(w, 0, 0, 3, 2)), w -> call.on(w, 0, 0, 3, 2));
            }
            for (int corner = 0; corner < 4; corner++) {
                int c = corner;
                asks(x, answer(without, w -> w.price(0, 0, 3, c)), w -> w.price(0, 0, 3, c));
                asks(x, answer(without, w -> w.parent(0, c)), w -> w.parent(0, c));
            }
            asks(x, false, w -> w.holds(0));
        }
    }

    private static void setsAreBits() {
        sentence("Part 1", "Sets of corners are told as bits: the sum of 2 to the power of each one's number; of "
                + "sets that is less which has the less sum.");
        for (int corner = 0; corner < 8; corner++) {
            int c = corner;
            int other = (corner + 3) % 8;
            asks(with(8), 1 << c, x -> x.cut(0, c, other, false));
            asks(with(8), 255 - (1 << other), x -> x.cut(0, c, other, true));
        }
        // the set of 0 and 1, whose sum is 3, is less than that of 2 alone, whose sum is 4
        CutsetWorks x = with(3, e(0, 1, 9));
        x.supply(0, 0, 3);
        x.supply(0, 1, -8);
        x.supply(0, 2, 5);
        asks(x, 3, w -> w.breaks(0));
        // the set of 2 and of 1 is less than that of 3 alone
        CutsetWorks y = with(5, e(1, 2, 0, 9, 0), e(2, 1, 0, 9, 0), e(1, 0, 2, 2, 0), e(3, 0, 1, 1, 0));
        asks(y, 6, w -> w.crowd(0, 0, 4));
    }

    private static void checksum() {
        returning(48);
        asks(with(2), 7L * 31 * 31, x -> x.checksum(0));
        long eight = 7;
        for (int corner = 0; corner < 8; corner++) {
            eight *= 31;
        }
        asks(with(8), eight, x -> x.checksum(0));
        asks(with(2, e(1, 0, 2, 3, -4)), sum(2, e(1, 0, 2, 3, -4)), x -> x.checksum(0));
        // the supplies count from the first corner on, behind the edges
        CutsetWorks y = with(3, e(2, 1, 0, 99, 20));
        y.supply(0, 0, -99);
        y.supply(0, 2, 99);
        long sum = 7;
        for (int part : new int[] {2, 1, 0, 99, 20, -99, 0, 99}) {
            sum = sum * 31 + part;
        }
        asks(y, sum, x -> x.checksum(0));
        // the sum goes beyond the greatest long, and below the least one, and wraps around
        int[][] greatest = new int[16][];
        int[][] least = new int[16][];
        for (int edge = 0; edge < 16; edge++) {
            greatest[edge] = e(7, 6, 99, 99, 20);
            least[edge] = e(0, 1, 0, 0, -20);
        }
        asks(with(8, greatest), sum(8, greatest), x -> x.checksum(0));
        asks(with(8, least), sum(8, least), x -> x.checksum(0));
        int seen = 0;
        for (int edges = 1; edges <= 16; edges++) {
            int[][] rows = Arrays.copyOf(greatest, edges);
            long told = with(8, rows).checksum(0);
            due(told, sum(8, rows));
            seen |= told < 0 ? 1 : 2;
        }
        due(seen, 3);
        // an edge's number counts, not how it came to it
        CutsetWorks z = with(3, e(0, 1, 5), e(1, 2, 6), e(2, 0, 7));
        z.drop(0, 0);
        asks(z, sum(3, e(1, 2, 6), e(2, 0, 7)), x -> x.checksum(0));
        asks(with(3, e(2, 0, 7), e(1, 2, 6)), sum(3, e(2, 0, 7), e(1, 2, 6)), x -> x.checksum(0));
    }

    private static long sum(int corners, int[]... edges) {
        BigInteger sum = BigInteger.valueOf(7);
        BigInteger times = BigInteger.valueOf(31);
        for (int[] edge : edges) {
            for (int part : edge) {
                sum = sum.multiply(times).add(BigInteger.valueOf(part));
            }
        }
        for (int corner = 0; corner < corners; corner++) {
            sum = sum.multiply(times);
        }
        return sum.longValue();
    }
}
