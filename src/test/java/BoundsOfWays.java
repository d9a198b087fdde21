/** Promises 21 to 25, and part 4. */
final class BoundsOfWays extends Calls {
    private BoundsOfWays() {
    }

    static void test() {
        edgesThatCount();
        edgeWays();
        cornerWays();
        throughEachCorner();
        apart();
        apartRefused();
        wider();
        without();
    }

    private static void waysAre(CutsetWorks x, int source, int sink, int byEdges, int byCorners, Object apart) {
        asks(x, byEdges, w -> w.edgeWays(0, source, sink));
        asks(x, byCorners, w -> w.cornerWays(0, source, sink));
        asks(x, apart, w -> w.apart(0, source, sink));
    }

    private static void edgesThatCount() {
        sentence("Part 4", "Here edges count whose most is not 0.");
        waysAre(with(2, e(0, 1, 0)), 0, 1, 0, 0, 0);
        waysAre(with(2, e(0, 1, 1)), 0, 1, 1, 1, UNSUPPORTED);
        waysAre(with(2, e(0, 1, 99)), 0, 1, 1, 1, UNSUPPORTED);
        waysAre(with(2, e(0, 1, 99, 99, 20)), 0, 1, 1, 1, UNSUPPORTED);
        waysAre(with(2, e(0, 1, 99)), 1, 0, 0, 0, 0);
        waysAre(with(3, e(0, 1, 0), e(0, 2, 1), e(2, 1, 1)), 0, 1, 1, 1, 4);
        waysAre(with(3, e(0, 1, 1), e(0, 2, 1), e(2, 1, 1)), 0, 1, 2, 2, UNSUPPORTED);
        waysAre(with(3, e(0, 2, 1), e(2, 1, 0)), 0, 1, 0, 0, 0);
        // there need be no flow
        waysAre(stuck(), 0, 3, 1, 1, 2);
        sentence("Part 4", "Ways lead from the source to the sink, along edges.");
        waysAre(with(3, e(1, 0, 5), e(2, 1, 5)), 0, 2, 0, 0, 0);
        waysAre(with(3, e(1, 0, 5), e(2, 1, 5)), 2, 0, 1, 1, 2);
        waysAre(with(3, e(0, 1, 5), e(2, 1, 5)), 0, 2, 0, 0, 0);
        waysAre(with(4, e(0, 1, 5), e(2, 1, 5), e(2, 3, 5)), 0, 3, 0, 0, 0);
    }

    /** From 0 to 7 by each of the six others. */
    private static CutsetWorks six() {
        CutsetWorks x = with(8);
        for (int corner = 1; corner < 7; corner++) {
            x.edge(0, 0, corner, 0, 99, 0);
            x.edge(0, corner, 7, 0, 99, 0);
        }
        return x;
    }

    private static CutsetWorks waist() {
        return with(7, e(0, 1, 9), e(0, 2, 9), e(1, 3, 9), e(2, 3, 9), e(3, 4, 9), e(3, 5, 9), e(4, 6, 9), e(5, 6, 9));
    }

    private static void edgeWays() {
        returning(21);
        asks(many(16, e(0, 1, 99)), 16, x -> x.edgeWays(0, 0, 1));
        asks(many(16, e(0, 1, 99)), 0, x -> x.edgeWays(0, 1, 0));
        asks(six(), 6, x -> x.edgeWays(0, 0, 7));
        sentence("Part 4", "So many without an edge in two of them there are, and so many without a corner, but the "
                + "source and the sink, or an edge, in two of them.");
        waysAre(waist(), 0, 6, 2, 1, 8);
        waysAre(waist(), 0, 3, 2, 2, 6);
        waysAre(waist(), 3, 6, 2, 2, 48);
        // one way must not take the edge between both
        waysAre(with(6, e(0, 1, 1), e(1, 2, 1), e(2, 3, 1), e(0, 4, 1), e(4, 2, 1), e(1, 5, 1), e(5, 3, 1)), 0, 3,
                2, 2, 6);
        // an edge twice is two edges, but leads to one corner
        waysAre(with(3, e(0, 1, 1), e(0, 1, 1), e(1, 2, 1), e(1, 2, 1)), 0, 2, 2, 1, 2);
        waysAre(with(3, e(0, 1, 1), e(0, 1, 1), e(1, 2, 9)), 0, 2, 1, 1, 2);
    }

    private static void cornerWays() {
        returning(22);
        asks(many(16, e(0, 1, 99)), 16, x -> x.cornerWays(0, 0, 1));
        asks(many(16, e(0, 1, 99)), 0, x -> x.cornerWays(0, 1, 0));
        asks(six(), 6, x -> x.cornerWays(0, 0, 7));
        asks(six(), 0, x -> x.cornerWays(0, 7, 0));
        // those that lead straight are ways without a corner
        asks(with(3, e(0, 1, 1), e(0, 1, 99), e(0, 1, 0), e(0, 2, 3), e(2, 1, 3), e(0, 2, 3), e(2, 1, 3)), 3,
                x -> x.cornerWays(0, 0, 1));
        asks(with(3, e(0, 1, 1), e(0, 1, 99), e(0, 1, 0), e(0, 2, 3), e(2, 1, 3), e(0, 2, 3), e(2, 1, 3)), 4,
                x -> x.edgeWays(0, 0, 1));
        // from the source with the greatest number, and sixteen edges
        CutsetWorks x = with(8);
        for (int corner = 1; corner < 7; corner++) {
            x.edge(0, 7, corner, 0, 1, 0);
            x.edge(0, corner, 0, 0, 1, 0);
        }
        for (int edge = 12; edge < 16; edge++) {
            x.edge(0, 7, 0, 0, 1, 0);
        }
        waysAre(x, 7, 0, 10, 10, UNSUPPORTED);
    }

    /** Each corner can be the source, the sink, or the one between them. */
    private static void throughEachCorner() {
        returning(22);
        for (int corners : new int[] {3, 8}) {
            for (int middle = 0; middle < corners; middle++) {
                int source = (middle + 1) % corners;
                int sink = (middle + 2) % corners;
                waysAre(with(corners, e(source, middle, 9), e(middle, sink, 9)), source, sink, 1, 1, 1 << middle);
                waysAre(with(corners, e(source, middle, 9), e(source, middle, 9), e(middle, sink, 9),
                        e(middle, sink, 9)), source, sink, 2, 1, 1 << middle);
                waysAre(with(corners, e(sink, middle, 9), e(middle, source, 9)), source, sink, 0, 0, 0);
            }
        }
    }

    private static void apart() {
        returning(23);
        asks(six(), 126, x -> x.apart(0, 0, 7));
        asks(six(), 0, x -> x.apart(0, 7, 0));
        asks(with(8), 0, x -> x.apart(0, 0, 7));
        asks(with(3, e(0, 1, 1), e(1, 2, 1)), 2, x -> x.apart(0, 0, 2));
        asks(with(8, e(0, 7, 1), e(7, 1, 1)), 128, x -> x.apart(0, 0, 1));
        asks(with(8, e(1, 0, 1), e(0, 7, 1)), 1, x -> x.apart(0, 1, 7));
        sentence("Part 4", "Apart are the fewest corners, but these two, without which there is no way; of several "
                + "sets the least one.");
        // of several with one corner the least; one corner ahead of two whose set is less
        asks(with(4, e(0, 1, 1), e(1, 2, 1), e(2, 3, 1)), 2, x -> x.apart(0, 0, 3));
        asks(with(4, e(0, 2, 1), e(2, 1, 1), e(1, 3, 1)), 2, x -> x.apart(0, 0, 3));
        asks(waist(), 8, x -> x.apart(0, 0, 6));
        // 1 and 2, or 1 and 4, or 3 and 2, or 3 and 4
        asks(with(6, e(0, 1, 1), e(1, 3, 1), e(3, 5, 1), e(0, 2, 1), e(2, 4, 1), e(4, 5, 1)), 6, x -> x.apart(0, 0, 5));
        asks(with(6, e(0, 3, 1), e(3, 1, 1), e(1, 5, 1), e(0, 4, 1), e(4, 2, 1), e(2, 5, 1)), 6, x -> x.apart(0, 0, 5));
        // neither the source nor the sink is taken, and what leads back to them leads nowhere
        asks(with(4, e(0, 1, 1), e(1, 0, 1), e(1, 3, 1), e(3, 1, 1), e(3, 2, 1), e(2, 0, 1)), 2, x -> x.apart(0, 0, 3));
        // a corner that leads nowhere is not taken
        asks(with(4, e(0, 1, 1), e(0, 2, 1), e(2, 3, 1)), 4, x -> x.apart(0, 0, 3));
    }

    private static void apartRefused() {
        throwing(23, UNSUPPORTED);
        for (int edge = 0; edge < 16; edge++) {
            int e = edge;
            Making making = () -> {
                CutsetWorks x = with(3);
                for (int number = 0; number < 16; number++) {
                    x.edge(0, 0, 1, 0, 0, 0);
                }
                x.change(0, e, 0, 1, 0);
                return x;
            };
            refused(UNSUPPORTED, making, x -> x.apart(0, 0, 1));
            asks(making.make(), 0, x -> x.apart(0, 1, 0));
            asks(making.make(), 0, x -> x.apart(0, 0, 2));
            CutsetWorks x = making.make();
            x.change(0, e, 0, 0, 0);
            asks(x, 0, w -> w.apart(0, 0, 1));
        }
        CutsetWorks x = with(3, e(0, 1, 1), e(0, 2, 1), e(2, 1, 1));
        asks(x, UNSUPPORTED, w -> w.apart(0, 0, 1));
        x.drop(0, 0);
        asks(x, 4, w -> w.apart(0, 0, 1));
        for (int corner = 0; corner < 6; corner++) {
            int c = corner;
            first(23, ARGUMENT, Bounds::stuck, w -> w.apart(0, c, c));
        }
    }

    private static void wider() {
        promise(24, "Returns the greatest amount if an edge had 1 more as its most, even above 99.");
        asks(with(2, e(0, 1, 99)), 100, x -> x.wider(0, 0, 1, 0));
        asks(with(2, e(0, 1, 98)), 99, x -> x.wider(0, 0, 1, 0));
        asks(with(2, e(0, 1, 0)), 1, x -> x.wider(0, 0, 1, 0));
        asks(with(2, e(0, 1, 0)), 0, x -> x.wider(0, 1, 0, 0));
        asks(with(2, e(0, 1, 99, 99, 0)), 100, x -> x.wider(0, 0, 1, 0));
        asks(with(2, e(0, 1, 99, 99, 0)), -99, x -> x.wider(0, 1, 0, 0));
        for (int edge = 0; edge < 16; edge++) {
            int e = edge;
            CutsetWorks x = many(16, e(0, 1, 99));
            asks(x, 1585, w -> w.wider(0, 0, 1, e));
            asks(x, 1584, w -> w.most(0, 0, 1));
            asks(x, 99, w -> w.change(0, e, 0, 99, 0));
        }
        returning(24);
        int[] dues = {6, 6, 5, 5, 5};
        for (int edge = 0; edge < 5; edge++) {
            int e = edge;
            asks(diamond(), dues[edge], x -> x.wider(0, 0, 3, e));
        }
        asks(with(3, e(0, 1, 3), e(1, 2, 3)), 3, x -> x.wider(0, 0, 2, 0));
        asks(with(3, e(0, 1, 3), e(1, 2, 3)), 3, x -> x.wider(0, 0, 2, 1));
        asks(with(3, e(0, 1, 3), e(1, 2, 4)), 4, x -> x.wider(0, 0, 2, 0));
        throwing(24, NONE);
        for (int source = 0; source < 6; source++) {
            int s = source;
            for (int edge = 0; edge < 7; edge++) {
                int e = edge;
                refused(NONE, Bounds::stuck, x -> x.wider(0, s, (s + 3) % 6, e));
            }
        }
        // there is none now, but there would be one; there would be none either
        Making oneMore = () -> with(3, e(0, 1, 3, 3, 0), e(1, 2, 2));
        refused(NONE, oneMore, x -> x.most(0, 0, 2));
        asks(oneMore.make(), 3, x -> x.wider(0, 0, 2, 1));
        refused(NONE, oneMore, x -> x.wider(0, 0, 2, 0));
        refused(NONE, () -> with(3, e(0, 1, 3, 3, 0), e(1, 2, 1)), x -> x.wider(0, 0, 2, 1));
    }

    private static void without() {
        returning(25);
        int[] dues = {2, 3, 4, 4, 2};
        for (int edge = 0; edge < 5; edge++) {
            int e = edge;
            CutsetWorks x = diamond();
            asks(x, dues[edge], w -> w.without(0, 0, 3, e));
            asks(x, 5, w -> w.most(0, 0, 3));
            asks(x, 5, w -> w.edges(0));
            x.drop(0, e);
            asks(x, dues[edge], w -> w.most(0, 0, 3));
        }
        asks(with(2, e(0, 1, 99, 99, 0)), 0, x -> x.without(0, 0, 1, 0));
        asks(with(2, e(0, 1, 99, 99, 0)), 0, x -> x.without(0, 1, 0, 0));
        asks(with(2, e(0, 1, 0)), 0, x -> x.without(0, 0, 1, 0));
        for (int edge = 0; edge < 16; edge++) {
            int e = edge;
            asks(many(16, e(0, 1, 99)), 1584 - 99, x -> x.without(0, 0, 1, e));
            asks(many(16, e(0, 1, 99, 99, 0)), -(1584 - 99), x -> x.without(0, 1, 0, e));
        }
        throwing(25, NONE);
        Making making = () -> with(3, e(0, 1, 3, 3, 0), e(1, 2, 2));
        asks(making.make(), 0, x -> x.without(0, 0, 2, 0));
        refused(NONE, making, x -> x.without(0, 0, 2, 1));
        // there is one now, but there would be none
        Making now = () -> with(3, e(0, 1, 3, 3, 0), e(1, 2, 3));
        asks(now.make(), 3, x -> x.most(0, 0, 2));
        refused(NONE, now, x -> x.without(0, 0, 2, 1));
        asks(now.make(), 0, x -> x.without(0, 0, 2, 0));
        for (int edge : new int[] {0, 2, 3, 5}) {
            refused(NONE, Bounds::stuck, x -> x.without(0, 0, 3, edge));
        }
    }
}
