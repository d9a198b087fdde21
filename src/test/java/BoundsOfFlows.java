/** Promises 8 to 17, and part 2. */
final class BoundsOfFlows extends Calls {
    private BoundsOfFlows() {
    }

    static void test() {
        most();
        flowBounds();
        leastRow();
        crowd();
        crowdHasBothOrNone();
        cut();
        cutSum();
        cutSumRefused();
        cuts();
        isFull();
        roundsNeedNoLeasts();
        rounds();
        roundAmount();
        roundSign();
        backward();
        fewestThenLeast();
    }

    private static void most() {
        returning(8);
        asks(many(16, e(0, 1, 99)), 1584, x -> x.most(0, 0, 1));
        asks(many(16, e(0, 1, 99)), 0, x -> x.most(0, 1, 0));
        asks(many(16, e(0, 1, 99, 99, 0)), 1584, x -> x.most(0, 0, 1));
        asks(many(1, e(0, 1, 0)), 0, x -> x.most(0, 0, 1));
        asks(many(1, e(0, 1, 1)), 1, x -> x.most(0, 0, 1));

        sentence("Part 2", "Its amount is what goes from the source less what comes to it, perhaps below 0.");
        asks(many(16, e(0, 1, 99, 99, 0)), -1584, x -> x.most(0, 1, 0));
        asks(many(1, e(0, 1, 1, 1, 0)), -1, x -> x.most(0, 1, 0));
        asks(many(1, e(0, 1, 0, 1, 0)), 0, x -> x.most(0, 1, 0));
        asks(with(2, e(0, 1, 7), e(1, 0, 2, 5, 0)), 5, x -> x.most(0, 0, 1));
        asks(with(2, e(0, 1, 7), e(1, 0, 2, 5, 0)), 5, x -> x.most(0, 1, 0));
        asks(with(2, e(0, 1, 7), e(1, 0, 7, 7, 0)), 0, x -> x.most(0, 0, 1));
        asks(with(2, e(0, 1, 7), e(1, 0, 8, 9, 0)), -1, x -> x.most(0, 0, 1));
        asks(with(3, e(0, 1, 4, 9, 0), e(1, 2, 99), e(2, 0, 3)), -1, x -> x.most(0, 2, 0));
        asks(with(3, e(0, 1, 4, 9, 0), e(1, 2, 99), e(2, 0, 4)), 0, x -> x.most(0, 2, 0));

        sentence("Part 2", "such that as much comes to each other corner as goes from it");
        asks(with(4, e(0, 1, 9), e(1, 2, 4), e(1, 3, 3)), 4, x -> x.most(0, 0, 2));
        asks(with(4, e(0, 1, 9), e(1, 2, 4), e(1, 3, 3)), 3, x -> x.most(0, 0, 3));
        asks(with(4, e(0, 1, 9), e(1, 2, 4), e(1, 3, 3), e(3, 2, 2)), 6, x -> x.most(0, 0, 2));
        asks(with(3, e(0, 1, 99)), 0, x -> x.most(0, 0, 2));
        asks(with(3, e(1, 2, 99)), 0, x -> x.most(0, 0, 2));
    }

    private static void rowIs(CutsetWorks x, int source, int sink, int... dues) {
        for (int edge = 0; edge < dues.length; edge++) {
            int e = edge;
            asks(x, dues[edge], w -> w.flow(0, source, sink, e));
        }
    }

    private static void flowBounds() {
        sentence("Part 2", "gives each edge a whole number from its least to its most");
        CutsetWorks x = with(2, e(0, 1, 99, 99, 0), e(0, 1, 0), e(1, 0, 5, 99, 0), e(0, 1, 98, 99, 0));
        asks(x, 99 + 99 - 5, w -> w.most(0, 0, 1));
        rowIs(x, 0, 1, 99, 0, 5, 99);
        asks(x, 99 - 99 - 98, w -> w.most(0, 1, 0));
        rowIs(x, 1, 0, 99, 0, 99, 98);
        returning(9);
        CutsetWorks sixteen = with(3);
        for (int edge = 0; edge < 15; edge++) {
            sixteen.edge(0, 0, 1, 0, 1, 0);
        }
        sixteen.edge(0, 1, 2, 0, 8, 0);
        rowIs(sixteen, 0, 2, 0, 0, 0, 0, 0, 0, 0, 1, 1, 1, 1, 1, 1, 1, 1, 8);
        rowIs(sixteen, 2, 0, 0, 0, 0, 0, 0, 0, 0, 0, 0, 0, 0, 0, 0, 0, 0, 0);
    }

    private static void leastRow() {
        sentence("Part 2", "Of the flows with the greatest amount the told one has the least row of numbers, by "
                + "edges.");
        int[][] dues = {{0, 0, 0}, {0, 1, 1}, {0, 4, 4}, {0, 5, 5}, {1, 5, 6}, {4, 5, 9}, {5, 5, 10}, {5, 5, 10}};
        int[] last = {0, 1, 4, 5, 6, 9, 10, 11};
        for (int index = 0; index < last.length; index++) {
            int most = last[index];
            rowIs(with(3, e(0, 1, 5), e(0, 1, 5), e(1, 2, most)), 0, 2, dues[index]);
        }
        rowIs(with(3, e(0, 1, 5), e(0, 1, 4, 5, 0), e(1, 2, 4)), 0, 2, 0, 4, 4);
        rowIs(with(3, e(0, 1, 1, 5, 0), e(0, 1, 5), e(1, 2, 4)), 0, 2, 1, 3, 4);
        // costs do not count
        rowIs(with(3, e(0, 1, 0, 5, -20), e(0, 1, 0, 5, 20), e(1, 2, 5)), 0, 2, 0, 5, 5);
        // rings stay empty, but for what their edges must have
        rowIs(with(4, e(0, 1, 1), e(2, 3, 9), e(3, 2, 9)), 0, 1, 1, 0, 0);
        rowIs(with(4, e(0, 1, 1), e(2, 3, 9), e(3, 2, 2, 9, 0)), 0, 1, 1, 2, 2);

        sentence("Part 1", "Of two rows that is less which has the less number where they first differ.");
        // 1 in three places behind is less than 1 in the first place
        rowIs(with(5, e(0, 3, 1), e(0, 1, 1), e(1, 2, 1), e(2, 3, 1), e(3, 4, 1)), 0, 4, 0, 1, 1, 1, 1);
        rowIs(with(5, e(3, 4, 1), e(2, 3, 1), e(1, 2, 1), e(0, 1, 1), e(0, 3, 1)), 0, 4, 1, 0, 0, 0, 1);
        rowIs(with(5, e(0, 3, 1), e(0, 1, 99), e(1, 2, 99), e(2, 3, 99), e(3, 4, 99)), 0, 4, 0, 99, 99, 99, 99);
        // they differ first in the second place, and the last place tells nothing
        rowIs(with(4, e(0, 1, 1), e(1, 2, 1), e(1, 3, 1), e(3, 2, 1)), 0, 2, 1, 0, 1, 1);
        rowIs(with(4, e(0, 1, 1), e(1, 3, 1), e(1, 2, 1), e(3, 2, 1)), 0, 2, 1, 0, 1, 0);
    }

    private static void crowd() {
        sentence("Part 2", "the least such set is told.");
        CutsetWorks x = with(4, e(1, 0, 2, 2, 0), e(2, 0, 2, 2, 0));
        asks(x, 2, w -> w.crowd(0, 0, 3));
        asks(x, 1, w -> w.drop(0, 0));
        asks(x, 4, w -> w.crowd(0, 0, 3));
        // one with both is told if none without both is less
        asks(with(4, e(0, 1, 2, 2, 0)), 9, w -> w.crowd(0, 0, 3));
        asks(with(4, e(0, 1, 2, 2, 0), e(2, 0, 1, 1, 0)), 4, w -> w.crowd(0, 0, 3));
        asks(with(4, e(0, 2, 2, 2, 0), e(3, 0, 1, 1, 0)), 3, w -> w.crowd(0, 0, 1));
        returning(10);
        asks(with(8, e(7, 6, 1, 1, 0)), 128, w -> w.crowd(0, 0, 1));
        asks(with(8, e(0, 7, 1, 1, 0)), 1, w -> w.crowd(0, 6, 7));
        // only all corners but the first one together cannot send so much there
        CutsetWorks y = with(8);
        for (int corner = 1; corner < 8; corner++) {
            y.edge(0, corner, corner % 7 + 1, 0, 99, 0);
            y.edge(0, corner, 0, 1, 1, 0);
        }
        asks(y, 254, w -> w.crowd(0, 6, 7));
        asks(y, NONE, w -> w.crowd(0, 0, 7));
        throwing(10, NONE);
        refused(NONE, Bounds::diamond, w -> w.crowd(0, 0, 3));
        refused(NONE, Bounds::full, w -> w.crowd(3, 7, 0));
        refused(NONE, () -> with(2, e(0, 1, 99, 99, 0)), w -> w.crowd(0, 1, 0));
    }

    private static void crowdHasBothOrNone() {
        sentence("Part 2", "a set of corners with both of the source and the sink, or without both");
        Making making = () -> with(3, e(1, 0, 3, 3, 0));
        asks(making.make(), NONE, x -> x.crowd(0, 0, 1));
        asks(making.make(), NONE, x -> x.crowd(0, 1, 0));
        asks(making.make(), -3, x -> x.most(0, 0, 1));
        asks(making.make(), 3, x -> x.most(0, 1, 0));
        asks(making.make(), 2, x -> x.crowd(0, 0, 2));
        asks(making.make(), 2, x -> x.crowd(0, 2, 0));
        asks(making.make(), 6, x -> x.crowd(0, 1, 2));
        asks(making.make(), 6, x -> x.crowd(0, 2, 1));
    }

    private static void nearAndFar(CutsetWorks x, int source, int sink, int near, int far, int many) {
        asks(x, near, w -> w.cut(0, source, sink, false));
        asks(x, far, w -> w.cut(0, source, sink, true));
        asks(x, many, w -> w.cuts(0, source, sink));
    }

    private static CutsetWorks line(int corners, int from, int step, int most) {
        CutsetWorks x = with(corners);
        for (int number = 0; number < corners - 1; number++) {
            x.edge(0, from + step * number, from + step * (number + 1), 0, most, 0);
        }
        return x;
    }

    private static void cut() {
        sentence("Part 2", "The near cut has the corners that are in all least cuts, the far cut those that are in "
                + "some.");
        nearAndFar(line(8, 0, 1, 3), 0, 7, 1, 127, 7);
        nearAndFar(line(8, 7, -1, 3), 7, 0, 128, 254, 7);
        nearAndFar(with(2, e(0, 1, 9)), 0, 1, 1, 1, 1);
        nearAndFar(with(3, e(0, 1, 3)), 0, 1, 1, 5, 2);
        nearAndFar(with(4, e(0, 1, 1), e(1, 3, 1), e(0, 2, 1), e(2, 3, 1)), 0, 3, 1, 7, 4);

        sentence("Part 2", "Least cuts are those with the least sum.");
        nearAndFar(with(3, e(0, 1, 3), e(1, 2, 3)), 0, 2, 1, 3, 2);
        nearAndFar(with(3, e(0, 1, 3), e(1, 2, 4)), 0, 2, 1, 1, 1);
        nearAndFar(with(3, e(0, 1, 4), e(1, 2, 3)), 0, 2, 3, 3, 1);
        nearAndFar(with(3, e(0, 1, 98), e(1, 2, 99)), 0, 2, 1, 1, 1);

        sentence("Part 2", "its sum is that of the most of all edges that lead from it, less that of the least of "
                + "all that lead into it.");
        nearAndFar(with(3, e(0, 1, 5), e(1, 2, 4), e(2, 1, 1, 9, 0)), 0, 2, 3, 3, 1);
        nearAndFar(with(3, e(0, 1, 5), e(1, 2, 4), e(2, 1, 1, 9, 0), e(1, 0, 2, 3, 0)), 0, 2, 1, 3, 2);
        nearAndFar(with(3, e(0, 1, 5), e(1, 2, 4), e(2, 1, 1, 9, 0), e(1, 0, 3, 3, 0)), 0, 2, 1, 1, 1);
        returning(11);
        asks(with(2), 1, x -> x.cut(0, 0, 1, true));
        asks(with(2), 2, x -> x.cut(0, 1, 0, false));
        asks(with(8), 254, x -> x.cut(0, 7, 0, true));
        promise(11, "- `isFar`: whether the far one");
        asks(with(8), 128, x -> x.cut(0, 7, 0, false));
    }

    private static void cutSum() {
        returning(12);
        asks(many(16, e(0, 1, 99)), 1584, x -> x.cutSum(0, 0, 1, 1));
        asks(many(16, e(0, 1, 99, 99, 0)), -1584, x -> x.cutSum(0, 1, 0, 2));
        asks(many(16, e(0, 1, 0, 99, 0)), 0, x -> x.cutSum(0, 1, 0, 2));
        asks(with(3, e(0, 1, 2, 5, 0), e(1, 0, 3, 7, 0), e(1, 2, 1, 9, 0), e(2, 1, 4, 8, 0)), 5 - 3,
                x -> x.cutSum(0, 0, 2, 1));
        asks(with(3, e(0, 1, 2, 5, 0), e(1, 0, 3, 7, 0), e(1, 2, 1, 9, 0), e(2, 1, 4, 8, 0)), 9 - 4,
                x -> x.cutSum(0, 0, 2, 3));
        asks(with(3, e(0, 1, 2, 5, 0), e(1, 0, 3, 7, 0), e(1, 2, 1, 9, 0), e(2, 1, 4, 8, 0)), 7 + 9 - 2 - 4,
                x -> x.cutSum(0, 1, 2, 2));
        // there need be no flow
        asks(stuck(), 1, x -> x.cutSum(0, 0, 3, 1));
        asks(stuck(), 2, x -> x.cutSum(0, 0, 3, 3));
        asks(stuck(), 17, x -> x.cutSum(0, 0, 3, 5));
        asks(with(8, e(6, 7, 9), e(0, 7, 3)), 12, x -> x.cutSum(0, 0, 7, 127));
        asks(with(8, e(6, 7, 9), e(0, 7, 3)), 3, x -> x.cutSum(0, 0, 7, 1));
    }

    private static void cutSumRefused() {
        sentence("Part 2", "A cut is a set of corners with the source and without the sink");
        for (int corners : new int[] {2, 3, 8}) {
            int sink = corners - 1;
            for (int set = -300; set <= 600; set++) {
                int s = set;
                boolean isCut = set >= 0 && set < 1 << corners && set % 2 == 1 && set < 1 << sink;
                asks(with(corners), isCut ? 0 : ARGUMENT, x -> x.cutSum(0, 0, sink, s));
                boolean isOther = set >= 0 && set < 1 << corners && set % 2 == 0 && set >= 1 << sink;
                asks(with(corners), isOther ? 0 : ARGUMENT, x -> x.cutSum(0, sink, 0, s));
            }
        }
        throwing(12, ARGUMENT);
        for (int bad : new int[] {0, 2, 8, 9, 10, 15, 16, 17, 33, 257, 65537, -1, -7, -15, -8, LEAST, LEAST + 1,
            GREATEST, GREATEST - 8, 1 << 30 | 1}) {
            refused(ARGUMENT, Bounds::diamond, x -> x.cutSum(0, 0, 3, bad));
            first(12, PLACE, Bounds::diamond, x -> x.cutSum(1, 0, 3, bad));
        }
        asks(diamond(), 5, x -> x.cutSum(0, 0, 3, 1));
        asks(diamond(), 6, x -> x.cutSum(0, 0, 3, 7));
        refused(ARGUMENT, Bounds::diamond, x -> x.cutSum(0, 1, 1, 2));
    }

    private static void cuts() {
        returning(13);
        asks(with(2), 1, x -> x.cuts(0, 0, 1));
        asks(with(8), 64, x -> x.cuts(0, 3, 5));
        asks(line(8, 0, 1, 99), 7, x -> x.cuts(0, 0, 7));
        asks(line(8, 0, 1, 0), 64, x -> x.cuts(0, 0, 7));
        asks(line(8, 0, 1, 1), 7, x -> x.cuts(0, 7, 0));
    }

    private static void isFull() {
        returning(14);
        boolean[][] dues = {{false, false, true}, {true, true, true}, {true, true, false}};
        for (int most = 9; most <= 11; most++) {
            int last = most;
            for (int edge = 0; edge < 3; edge++) {
                int e = edge;
                asks(with(3, e(0, 1, 5), e(0, 1, 5), e(1, 2, last)), dues[most - 9][edge],
                        x -> x.isFull(0, 0, 2, e));
            }
        }
        // least and most alike: no flow gives less
        asks(with(2, e(0, 1, 0)), true, x -> x.isFull(0, 0, 1, 0));
        asks(with(2, e(0, 1, 0)), true, x -> x.isFull(0, 1, 0, 0));
        asks(with(2, e(0, 1, 99, 99, 0)), true, x -> x.isFull(0, 1, 0, 0));
        asks(with(2, e(0, 1, 98, 99, 0)), false, x -> x.isFull(0, 1, 0, 0));
        asks(with(2, e(0, 1, 98, 99, 0)), true, x -> x.isFull(0, 0, 1, 0));
        // a ring may be filled, but need not, unless one of its edges must be
        asks(with(4, e(0, 1, 1), e(2, 3, 5), e(3, 2, 5)), false, x -> x.isFull(0, 0, 1, 1));
        asks(with(4, e(0, 1, 1), e(2, 3, 5, 5, 0), e(3, 2, 5)), true, x -> x.isFull(0, 0, 1, 2));
        asks(with(4, e(0, 1, 1), e(2, 3, 5, 5, 0), e(3, 2, 6)), false, x -> x.isFull(0, 0, 1, 2));
        asks(with(4, e(0, 1, 1), e(2, 3, 4, 5, 0), e(3, 2, 5)), false, x -> x.isFull(0, 0, 1, 2));
    }

    private static void roundsNeedNoLeasts() {
        Ends[] calls = {new Ends(15, CutsetWorks::rounds), new Ends(16, (x, n, s, t) -> x.roundAmount(n, s, t, 0)),
            new Ends(17, (x, n, s, t) -> x.roundSign(n, s, t, 0, 0))};
        Object[] dues = {1, 4, 15};
        for (int call = 0; call < calls.length; call++) {
            Ends asked = calls[call];
            throwing(asked.promise(), UNSUPPORTED);
            for (int edge = 0; edge < 16; edge++) {
                int e = edge;
                // the edge is not even on a way, or it is the one that all ways need
                Making making = () -> {
                    CutsetWorks x = with(8);
                    for (int number = 0; number < 15; number++) {
                        x.edge(0, 5, 6, 0, 3, 0);
                    }
                    x.edge(0, 0, 1, 0, 4, 0);
                    x.change(0, e, 1, 4, 0);
                    return x;
                };
                refused(UNSUPPORTED, making, x -> asked.on(x, 0, 0, 1));
                refused(UNSUPPORTED, making, x -> asked.on(x, 0, 1, 0));
                CutsetWorks x = making.make();
                x.change(0, e, 0, 4, 0);
                asks(x, dues[call], w -> asked.on(w, 0, 0, 1));
            }
            CutsetWorks x = with(3, e(0, 1, 0, 4, 0), e(1, 2, 1, 1, 0));
            asks(x, UNSUPPORTED, w -> asked.on(w, 0, 0, 1));
            x.drop(0, 1);
            asks(x, call == 2 ? 0 : dues[call], w -> asked.on(w, 0, 0, 1));
            // a least in another net does not count
            asks(some(), answer(diamond(), w -> asked.on(w, 0, 0, 3)), w -> asked.on(w, 0, 0, 3));
            asks(some(), UNSUPPORTED, w -> asked.on(w, 1, 0, 2));
        }
        sentence("Part 2", "Rounds, if all leasts are 0: from nothing on edges");
        CutsetWorks x = diamond();
        for (int time = 0; time < 3; time++) {
            asks(x, 3, w -> w.rounds(0, 0, 3));
            asks(x, 2, w -> w.roundAmount(0, 0, 3, 0));
            asks(x, 5, w -> w.most(0, 0, 3));
        }
        for (int bad : new int[] {-1, 0, 1, 9, LEAST, GREATEST}) {
            first(16, UNSUPPORTED, Bounds::stuck, w -> w.roundAmount(0, 0, 3, bad));
            first(17, UNSUPPORTED, Bounds::stuck, w -> w.roundSign(0, 0, 3, bad, bad));
            first(17, UNSUPPORTED, Bounds::stuck, w -> w.roundSign(0, 0, 3, 0, bad));
            first(16, ARGUMENT, Bounds::diamond, w -> w.roundAmount(0, 2, 2, bad));
            first(17, ARGUMENT, Bounds::diamond, w -> w.roundSign(0, 2, 2, bad, bad));
            first(16, PLACE, Bounds::diamond, w -> w.roundAmount(1, 0, 3, bad));
            first(17, PLACE, Bounds::diamond, w -> w.roundSign(-1, 0, 3, bad, bad));
        }
    }

    private static void rounds() {
        returning(15);
        asks(many(16, e(0, 1, 1)), 16, x -> x.rounds(0, 0, 1));
        asks(many(16, e(0, 1, 1)), 0, x -> x.rounds(0, 1, 0));
        asks(many(16, e(0, 1, 0)), 0, x -> x.rounds(0, 0, 1));
        asks(many(1, e(0, 1, 99)), 1, x -> x.rounds(0, 0, 1));
        asks(with(3, e(0, 1, 9)), 0, x -> x.rounds(0, 0, 2));

        sentence("Part 2", "That is a round; then the next one, until there is no way.");
        asks(with(2, e(0, 1, 0), e(0, 1, 1), e(0, 1, 0), e(0, 1, 1)), 2, x -> x.rounds(0, 0, 1));
        asks(with(3, e(0, 1, 5), e(0, 1, 5), e(1, 2, 5)), 1, x -> x.rounds(0, 0, 2));
        asks(with(3, e(0, 1, 5), e(0, 1, 5), e(1, 2, 6)), 2, x -> x.rounds(0, 0, 2));
        asks(with(3, e(0, 1, 5), e(0, 1, 5), e(1, 2, 10)), 2, x -> x.rounds(0, 0, 2));
        asks(with(3, e(0, 1, 5), e(0, 1, 5), e(1, 2, 3), e(1, 2, 3), e(1, 2, 3)), 4, x -> x.rounds(0, 0, 2));
    }

    private static void roundAmount() {
        promise(16, "- `round`: its number, from 0");
        CutsetWorks x = many(16, e(0, 1, 1));
        for (int number = 0; number < 16; number++) {
            int round = number;
            asks(x, 1, w -> w.roundAmount(0, 0, 1, round));
            asks(x, number, w -> w.roundSign(0, 0, 1, round, 0));
        }
        throwing(16, NONE);
        for (int bad : new int[] {-1, 16, 17, 32, LEAST, GREATEST}) {
            refused(NONE, () -> many(16, e(0, 1, 1)), w -> w.roundAmount(0, 0, 1, bad));
        }
        for (int bad : new int[] {-1, 3, 4, LEAST, GREATEST}) {
            refused(NONE, Bounds::diamond, w -> w.roundAmount(0, 0, 3, bad));
        }
        refused(NONE, Bounds::diamond, w -> w.roundAmount(0, 3, 0, 0));
        refused(NONE, () -> with(2), w -> w.roundAmount(0, 0, 1, 0));

        sentence("Part 2", "As much as it lets is put on it: forward more, backward less.");
        for (int place = 0; place < 7; place++) {
            int edge = place;
            CutsetWorks line = line(8, 0, 1, 99);
            asks(line, 99, w -> w.roundAmount(0, 0, 7, 0));
            asks(line, 99, w -> w.change(0, edge, 0, 98, 0));
            asks(line, 98, w -> w.roundAmount(0, 0, 7, 0));
            asks(line, 98, w -> w.change(0, edge, 0, 1, 0));
            asks(line, 1, w -> w.roundAmount(0, 0, 7, 0));
            asks(line, NONE, w -> w.roundAmount(0, 0, 7, 1));
            asks(line, 1, w -> w.change(0, edge, 0, 0, 0));
            asks(line, 0, w -> w.rounds(0, 0, 7));
        }
        returning(16);
        asks(many(1, e(0, 1, 99)), 99, w -> w.roundAmount(0, 0, 1, 0));
        asks(with(3, e(0, 1, 5), e(0, 1, 5), e(1, 2, 9)), 5, w -> w.roundAmount(0, 0, 2, 0));
        asks(with(3, e(0, 1, 5), e(0, 1, 5), e(1, 2, 9)), 4, w -> w.roundAmount(0, 0, 2, 1));
    }

    private static void signsAre(CutsetWorks x, int source, int sink, int round, int... dues) {
        for (int index = 0; index < dues.length; index++) {
            int i = index;
            asks(x, dues[index], w -> w.roundSign(0, source, sink, round, i));
        }
        asks(x, NONE, w -> w.roundSign(0, source, sink, round, dues.length));
        asks(x, NONE, w -> w.roundSign(0, source, sink, round, -1));
    }

    private static void roundSign() {
        promise(17, "- `index`: the place of the sign, from 0");
        signsAre(line(8, 0, 1, 5), 0, 7, 0, 0, 1, 2, 3, 4, 5, 6);
        signsAre(line(8, 7, -1, 5), 7, 0, 0, 0, 1, 2, 3, 4, 5, 6);
        signsAre(line(8, 0, 1, 5), 3, 5, 0, 3, 4);
        signsAre(with(2, e(0, 1, 1)), 0, 1, 0, 0);
        throwing(17, NONE);
        for (int bad : new int[] {-1, 7, 8, 16, LEAST, GREATEST}) {
            refused(NONE, () -> line(8, 0, 1, 5), w -> w.roundSign(0, 0, 7, 0, bad));
        }
        for (int bad : new int[] {-1, 1, 2, LEAST, GREATEST}) {
            refused(NONE, () -> line(8, 0, 1, 5), w -> w.roundSign(0, 0, 7, bad, 0));
        }
        refused(NONE, () -> with(2), w -> w.roundSign(0, 0, 1, 0, 0));
        promise(17, "- `round`: its number, from 0");
        CutsetWorks x = diamond();
        signsAre(x, 0, 3, 0, 0, 3);
        signsAre(x, 0, 3, 1, 1, 4);
        signsAre(x, 0, 3, 2, 0, 2, 4);
        for (int bad : new int[] {-1, 3}) {
            refused(NONE, Bounds::diamond, w -> w.roundSign(0, 0, 3, bad, 0));
        }
    }

    /**
     * The shortest way leads along the edge from 1 to 2, which has the number told; the next one leads back along it,
     * and there is no other one. The edges that are not needed lead to a corner from which none leads.
     */
    private static CutsetWorks back(int number, int wide, int most) {
        int[][] others = {e(0, 1, most), e(2, 3, most), e(0, 4, wide), e(4, 2, wide), e(1, 5, wide), e(5, 6, wide),
            e(6, 3, wide)};
        CutsetWorks x = with(8);
        for (int edge = 0; edge < 16; edge++) {
            int index = edge < number ? edge : edge - 1;
            int[] row = edge == number ? e(1, 2, most) : index < others.length ? others[index] : e(6, 7, 9);
            x.edge(0, row[0], row[1], row[2], row[3], row[4]);
        }
        return x;
    }

    private static void backward() {
        returning(17);
        for (int number = 0; number < 16; number++) {
            int[] n = new int[7];
            for (int index = 0; index < 7; index++) {
                n[index] = index < number ? index : index + 1;
            }
            CutsetWorks x = back(number, 1, 1);
            asks(x, 2, w -> w.rounds(0, 0, 3));
            signsAre(x, 0, 3, 0, n[0], number, n[1]);
            signsAre(x, 0, 3, 1, n[2], n[3], number + 16, n[4], n[5], n[6]);
        }
        sentence("Part 2", "by edges that can get more, forward, or that have something, backward");
        // what goes back is no more than the edge has, however wide the others are, and then it has nothing
        CutsetWorks y = back(15, 9, 2);
        asks(y, 2, w -> w.rounds(0, 0, 3));
        asks(y, 2, w -> w.roundAmount(0, 0, 3, 0));
        asks(y, 2, w -> w.roundAmount(0, 0, 3, 1));
        asks(y, 4, w -> w.most(0, 0, 3));
        signsAre(y, 0, 3, 1, 2, 3, 31, 4, 5, 6);
        CutsetWorks z = back(0, 1, 2);
        asks(z, 2, w -> w.rounds(0, 0, 3));
        asks(z, 2, w -> w.roundAmount(0, 0, 3, 0));
        asks(z, 1, w -> w.roundAmount(0, 0, 3, 1));
        // nothing on an edge: none goes back; all on it: no more goes forward
        asks(with(2, e(1, 0, 9)), 0, w -> w.rounds(0, 0, 1));
        asks(with(3, e(1, 0, 9), e(2, 1, 9)), 0, w -> w.rounds(0, 0, 2));
        asks(with(2, e(0, 1, 1), e(1, 0, 9)), 1, w -> w.rounds(0, 0, 1));
    }

    private static void fewestThenLeast() {
        sentence("Part 2", "it has the fewest edges, and of several such ways that with the least row of signs, the "
                + "number of an edge forward, 16 more backward.");
        CutsetWorks x = with(3, e(0, 1, 9), e(1, 2, 9), e(0, 2, 9));
        signsAre(x, 0, 2, 0, 2);
        signsAre(x, 0, 2, 1, 0, 1);
        CutsetWorks y = with(4, e(2, 3, 9), e(0, 2, 1), e(0, 1, 1), e(1, 3, 9));
        signsAre(y, 0, 3, 0, 1, 0);
        signsAre(y, 0, 3, 1, 2, 3);
        CutsetWorks z = with(3, e(0, 1, 1), e(1, 2, 2), e(1, 2, 2), e(0, 1, 9));
        signsAre(z, 0, 2, 0, 0, 1);
        signsAre(z, 0, 2, 1, 3, 1);
        signsAre(z, 0, 2, 2, 3, 2);
        // forward by the edge 15 comes ahead of backward by the edge 0
        CutsetWorks last = with(8, e(1, 2, 1), e(0, 1, 1), e(2, 3, 1), e(0, 4, 2), e(4, 2, 2), e(1, 5, 2), e(5, 3, 2));
        for (int edge = 7; edge < 15; edge++) {
            last.edge(0, 6, 7, 0, 1, 0);
        }
        last.edge(0, 2, 1, 0, 1, 0);
        asks(last, 3, w -> w.rounds(0, 0, 3));
        signsAre(last, 0, 3, 0, 1, 0, 2);
        signsAre(last, 0, 3, 1, 3, 4, 15, 5, 6);
        signsAre(last, 0, 3, 2, 3, 4, 16, 5, 6);
        // of several backward ones the least is gone along first
        CutsetWorks both = with(6, e(0, 1, 2), e(1, 2, 1), e(1, 2, 1), e(2, 3, 2), e(0, 4, 2), e(4, 2, 2), e(1, 5, 2),
                e(5, 3, 2));
        signsAre(both, 0, 3, 2, 4, 5, 17, 6, 7);
        signsAre(both, 0, 3, 3, 4, 5, 18, 6, 7);
        asks(both, 4, w -> w.rounds(0, 0, 3));
    }
}
