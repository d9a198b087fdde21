/** Promises 18 to 20, and part 3. */
final class BoundsOfCosts extends Calls {
    private BoundsOfCosts() {
    }

    static void test() {
        cost();
        cheapest();
        greatestAheadOfCheapest();
        price();
        priceRefused();
        pricesByWhatIsLeft();
        greatestPrices();
    }

    private static void cost() {
        returning(18);
        asks(many(16, e(0, 1, 99, 99, 20)), 16 * 99 * 20, x -> x.cost(0, 0, 1));
        asks(many(16, e(0, 1, 99, 99, -20)), -16 * 99 * 20, x -> x.cost(0, 0, 1));
        asks(many(16, e(0, 1, 0, 99, 20)), 16 * 99 * 20, x -> x.cost(0, 0, 1));
        asks(many(16, e(0, 1, 0, 99, 20)), 0, x -> x.cost(0, 1, 0));
        asks(many(16, e(0, 1, 0, 99, -20)), 0, x -> x.cost(0, 1, 0));
        asks(many(16, e(0, 1, 99, 99, 20)), 16 * 99 * 20, x -> x.cost(0, 1, 0));
        asks(with(2), 0, x -> x.cost(0, 0, 1));
        asks(with(2, e(0, 1, 2, 3, 5), e(1, 0, 4, 5, -7)), 3 * 5 - 4 * 7, x -> x.cost(0, 0, 1));
        sentence("Part 3", "The cost of a flow is the sum of each edge's cost times its number.");
        asks(with(3, e(0, 1, 0, 4, 3), e(1, 2, 0, 9, -2), e(0, 2, 0, 5, 0)), 4, x -> x.cost(0, 0, 2));
        asks(with(4, e(0, 1, 0, 1, 1), e(2, 3, 2, 2, 5), e(3, 2, 0, 9, 6)), 1 + 10 + 12, x -> x.cost(0, 0, 1));
    }

    private static void cheapestIs(CutsetWorks x, int source, int sink, int... dues) {
        for (int edge = 0; edge < dues.length; edge++) {
            int e = edge;
            asks(x, dues[edge], w -> w.cheapest(0, source, sink, e));
        }
    }

    private static CutsetWorks two(int oneCost, int otherCost, int most) {
        return with(3, e(0, 1, 0, 5, oneCost), e(0, 1, 0, 5, otherCost), e(1, 2, most));
    }

    private static void cheapest() {
        sentence("Part 3", "Of the greatest flows those with the least cost are cheapest; of these the told one has "
                + "the least row.");
        // alike, 1 less and 1 more
        cheapestIs(two(20, 20, 7), 0, 2, 2, 5, 7);
        cheapestIs(two(19, 20, 7), 0, 2, 5, 2, 7);
        cheapestIs(two(20, 19, 7), 0, 2, 2, 5, 7);
        cheapestIs(two(-20, -20, 4), 0, 2, 0, 4, 4);
        cheapestIs(two(-20, -19, 4), 0, 2, 4, 0, 4);
        cheapestIs(two(-19, -20, 4), 0, 2, 0, 4, 4);
        cheapestIs(two(0, 0, 10), 0, 2, 5, 5, 10);
        cheapestIs(two(-20, 20, 10), 0, 2, 5, 5, 10);
        // a ring that costs nothing stays empty, one that costs 1 less than nothing is filled
        cheapestIs(with(4, e(0, 1, 0, 1, 0), e(2, 3, 0, 9, 5), e(3, 2, 0, 8, -5)), 0, 1, 1, 0, 0);
        cheapestIs(with(4, e(0, 1, 0, 1, 0), e(2, 3, 0, 9, 5), e(3, 2, 0, 8, -6)), 0, 1, 1, 8, 8);
        cheapestIs(with(4, e(0, 1, 0, 1, 0), e(2, 3, 0, 9, 5), e(3, 2, 0, 8, -4)), 0, 1, 1, 0, 0);
        cheapestIs(with(4, e(0, 1, 0, 1, 0), e(2, 3, 1, 9, 5), e(3, 2, 0, 8, -4)), 0, 1, 1, 1, 1);
        // more edges lead on from such a ring, but nothing can go there
        cheapestIs(with(5, e(0, 1, 0, 1, 0), e(2, 3, 0, 5, -1), e(3, 2, 0, 5, -1), e(3, 4, 0, 5, 0)), 0, 1,
                1, 5, 5, 0);
        cheapestIs(with(5, e(0, 1, 0, 1, 0), e(2, 3, 0, 5, -1), e(3, 2, 0, 5, -1), e(2, 4, 0, 5, -9)), 0, 1,
                1, 5, 5, 0);
        // a ring through the source or the sink as well
        cheapestIs(with(2, e(0, 1, 0, 9, -3), e(1, 0, 0, 4, 2)), 1, 0, 0, 4);
        cheapestIs(with(3, e(0, 1, 0, 9, -3), e(1, 0, 0, 4, 2), e(1, 2, 0, 3, 0)), 0, 2, 7, 4, 3);
        returning(19);
        cheapestIs(with(2, e(0, 1, 99, 99, 20)), 1, 0, 99);
        cheapestIs(with(2, e(0, 1, 0, 99, -20)), 1, 0, 0);
        CutsetWorks x = many(16, e(0, 1, 0, 1, 0));
        asks(x, 1, w -> w.cheapest(0, 0, 1, 15));
        // the cheapest row is another one than that of part 2
        asks(two(19, 20, 7), 2, w -> w.flow(0, 0, 2, 0));
    }

    private static void greatestAheadOfCheapest() {
        sentence("Part 3", "Of the greatest flows those with the least cost are cheapest");
        asks(many(16, e(0, 1, 0, 99, 20)), 1584, x -> x.most(0, 0, 1));
        cheapestIs(with(3, e(0, 1, 0, 1, 20), e(1, 2, 0, 1, 20)), 0, 2, 1, 1);
        // what goes back to the source would earn, but lessen the amount
        cheapestIs(with(3, e(0, 1, 0, 3, 0), e(1, 2, 0, 2, 0), e(1, 0, 0, 3, -20)), 0, 2, 3, 2, 1);
        cheapestIs(with(2, e(0, 1, 0, 3, 0), e(1, 0, 0, 3, -20)), 0, 1, 3, 0);
        cheapestIs(with(2, e(0, 1, 0, 3, 20), e(1, 0, 0, 3, -19)), 0, 1, 3, 0);
    }

    private static void price() {
        sentence("Part 3", "Prices are numbers for corners, 0 for the source");
        for (int source = 0; source < 4; source++) {
            int s = source;
            asks(diamond(), 0, x -> x.price(0, s, (s + 1) % 4, s));
            asks(full(), 0, x -> x.price(3, s, (s + 1) % 4, s));
        }
        returning(20);
        CutsetWorks line = with(8);
        CutsetWorks earning = with(8);
        for (int corner = 0; corner < 7; corner++) {
            line.edge(0, corner, corner + 1, 0, 9, 20);
            earning.edge(0, corner, corner + 1, 0, 9, -20);
        }
        line.change(0, 6, 0, 8, 20);
        earning.change(0, 6, 0, 8, -20);
        for (int corner = 0; corner < 7; corner++) {
            int c = corner;
            asks(line, 20 * corner, x -> x.price(0, 0, 7, c));
            asks(earning, -20 * corner, x -> x.price(0, 0, 7, c));
        }
        asks(line, NONE, x -> x.price(0, 0, 7, 7));
        asks(earning, NONE, x -> x.price(0, 0, 7, 7));
        sentence("Part 3", "the greatest ones are told, none for a corner that has no greatest one.");
        // what flows could come back, but nothing can go on: the corner may have any price from 7 on
        asks(with(2, e(0, 1, 0, 5, 7)), NONE, x -> x.price(0, 0, 1, 1));
        asks(with(2, e(0, 1, 0, 5, 7)), NONE, x -> x.price(0, 1, 0, 0));
        asks(with(3, e(0, 1, 0, 5, 7), e(1, 2, 0, 4, 0)), 7, x -> x.price(0, 0, 2, 1));
        asks(with(3, e(0, 1, 0, 5, 7), e(1, 2, 0, 5, 0)), NONE, x -> x.price(0, 0, 2, 1));
        asks(with(3, e(0, 1, 0, 5, 7), e(1, 2, 0, 6, 0)), NONE, x -> x.price(0, 0, 2, 1));
        throwing(20, NONE);
        refused(NONE, () -> with(8), x -> x.price(0, 0, 7, 3));
        // edges between corners to which none leads from the source
        for (int corner = 1; corner < 4; corner++) {
            int c = corner;
            refused(NONE, () -> with(4, e(2, 3, 0, 5, -4)), x -> x.price(0, 0, 1, c));
            refused(NONE, () -> with(4, e(2, 3, 2, 5, 4), e(3, 2, 1, 5, 3)), x -> x.price(0, 0, 1, c));
        }
        refused(NONE, () -> with(3, e(0, 1, 0, 5, 7), e(1, 2, 0, 4, 0)), x -> x.price(0, 0, 2, 2));
    }

    private static void priceRefused() {
        throwing(20, PLACE);
        for (int corners : new int[] {2, 4, 8}) {
            Making making = () -> with(corners, e(0, 1, 3));
            for (int bad : new int[] {-1, corners, corners + 1, 8, 32, 256, LEAST, GREATEST}) {
                refused(PLACE, making, x -> x.price(0, 0, 1, bad));
                first(20, PLACE, making, x -> x.price(0, 0, 0, bad));
                first(20, PLACE, making, x -> x.price(0, bad, bad, bad));
                first(20, PLACE, making, x -> x.price(1, 0, 1, bad));
            }
            asks(making.make(), 0, x -> x.price(0, corners - 1, 0, corners - 1));
        }
        throwing(20, ARGUMENT);
        for (int corner = 0; corner < 4; corner++) {
            int c = corner;
            refused(ARGUMENT, Bounds::diamond, x -> x.price(0, 1, 1, c));
            refused(ARGUMENT, Bounds::diamond, x -> x.price(0, 4, 1, c));
            first(20, ARGUMENT, Bounds::stuck, x -> x.price(0, 1, 1, c));
        }
    }

    /** Two edges lead on, the first one with a number that is kept; what is asked is the price between them. */
    private static CutsetWorks kept(int least, int most, int secondLeast) {
        return with(4, e(0, 2, least, most, 5), e(2, 1, secondLeast, 1, 2), e(0, 1, 0, 9, 4), e(1, 3, 0, 3, 0));
    }

    private static void pricesByWhatIsLeft() {
        sentence("Part 3", "such that, by the cheapest flow that is told, the price of an edge's end is not above "
                + "that of its beginning and its cost, if it can get more, and not below it, if it has more than "
                + "its least");
        // one that has its least alone does not bind its beginning; one that has 1 more does
        asks(kept(1, 1, 0), 2, x -> x.price(0, 0, 3, 2));
        asks(kept(1, 1, 1), NONE, x -> x.price(0, 0, 3, 2));
        // one that can get 1 more binds its end
        asks(kept(1, 2, 1), 5, x -> x.price(0, 0, 3, 2));
        asks(kept(1, 2, 0), 2, x -> x.price(0, 0, 3, 2));
        for (int most : new int[] {4, 5}) {
            CutsetWorks x = with(3, e(0, 1, 0, most, -20), e(1, 2, 0, 4, 0));
            asks(x, 4, w -> w.most(0, 0, 2));
            asks(x, most == 4 ? NONE : (Object) (-20), w -> w.price(0, 0, 2, 1));
        }
        // an edge that never has anything tells nothing of its beginning
        asks(with(3, e(0, 1, 0, 5, 1), e(2, 1, 0, 5, 1)), NONE, x -> x.price(0, 0, 1, 2));
        asks(with(4, e(0, 1, 0, 5, 1), e(2, 1, 0, 5, 1), e(1, 3, 0, 4, 0)), NONE, x -> x.price(0, 0, 3, 2));
        // one after the other backward, and forward, however the edges are numbered
        CutsetWorks chain = with(5, e(3, 2, 0, 1, 2), e(2, 1, 0, 1, 3), e(0, 1, 0, 9, 4), e(0, 3, 1, 1, 5), e(1, 4, 3));
        asks(chain, 4, w -> w.price(0, 0, 4, 1));
        asks(chain, 1, w -> w.price(0, 0, 4, 2));
        asks(chain, -1, w -> w.price(0, 0, 4, 3));
        asks(chain, NONE, w -> w.price(0, 0, 4, 4));
        for (int source = 0; source < 8; source++) {
            lineFrom(source);
        }
        // of two alike the told flow leaves room on the first one alone
        CutsetWorks alike = with(5, e(0, 1, 0, 2, 3), e(0, 4, 0, 2, 3), e(1, 2, 0, 2, 0), e(4, 2, 0, 2, 0),
                e(2, 3, 0, 2, 0));
        cheapestIs(alike, 0, 3, 0, 2, 0, 2, 2);
        asks(alike, 3, w -> w.price(0, 0, 3, 1));
        asks(alike, 3, w -> w.price(0, 0, 3, 2));
        asks(alike, 3, w -> w.price(0, 0, 3, 4));
        asks(alike, NONE, w -> w.price(0, 0, 3, 3));
    }

    /** Seven edges lead on and on, the last one first; the last one alone is full. */
    private static void lineFrom(int source) {
        int sink = (source + 7) % 8;
        CutsetWorks x = with(8, e((source + 6) % 8, sink, 3));
        for (int place = 5; place >= 0; place--) {
            x.edge(0, (source + place) % 8, (source + place + 1) % 8, 0, 4, place - 9);
        }
        int sum = 0;
        for (int place = 0; place < 7; place++) {
            int corner = (source + place) % 8;
            asks(x, sum, w -> w.price(0, source, sink, corner));
            sum += place - 9;
        }
        asks(x, NONE, w -> w.price(0, source, sink, sink));
    }

    private static void greatestPrices() {
        sentence("Part 3", "the greatest ones are told");
        // two ways bind a corner: the less one does
        asks(with(4, e(0, 1, 0, 9, 6), e(0, 2, 0, 9, 2), e(2, 1, 0, 9, 3), e(1, 3, 0, 4, 0)), 5,
                x -> x.price(0, 0, 3, 1));
        asks(with(4, e(0, 1, 0, 9, 4), e(0, 2, 0, 9, 2), e(2, 1, 0, 9, 3), e(1, 3, 0, 4, 0)), 4,
                x -> x.price(0, 0, 3, 1));
        // the cheaper way is full, so that the dearer one binds
        asks(with(4, e(0, 1, 0, 9, 6), e(0, 2, 0, 3, 2), e(2, 1, 0, 9, 3), e(1, 3, 0, 4, 0)), 6,
                x -> x.price(0, 0, 3, 1));
        asks(with(4, e(0, 1, 0, 9, 6), e(0, 2, 0, 3, 2), e(2, 1, 0, 9, 3), e(1, 3, 0, 4, 0)), 3,
                x -> x.price(0, 0, 3, 2));
        asks(with(4, e(0, 1, 0, 9, 6), e(0, 2, 0, 3, 2), e(2, 1, 0, 9, 3), e(1, 3, 0, 3, 0)), 6,
                x -> x.price(0, 0, 3, 1));
    }
}
