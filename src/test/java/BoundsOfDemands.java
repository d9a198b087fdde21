/** Promises 26 to 31, and parts 5 to 7. */
final class BoundsOfDemands extends Calls {
    private BoundsOfDemands() {
    }

    static void test() {
        holds();
        meets();
        meetsRefused();
        breaks();
        parent();
        parentRefused();
        between();
        inSteps();
        inStepsRefused();
        onlyMostsCount();
    }

    private static CutsetWorks wants(int[] supplies, int[]... edges) {
        CutsetWorks x = with(supplies.length, edges);
        for (int corner = 0; corner < supplies.length; corner++) {
            x.supply(0, corner, supplies[corner]);
        }
        return x;
    }

    private static int[] s(int... supplies) {
        return supplies;
    }

    /** Whether they hold, and if not, the crowd. */
    private static void brokenBy(CutsetWorks x, Object crowd) {
        asks(x, crowd == NONE, w -> w.holds(0));
        asks(x, crowd, w -> w.breaks(0));
        if (crowd != NONE && x.edges(0) > 0) {
            asks(x, NONE, w -> w.meets(0, 0));
        }
    }

    private static void holds() {
        returning(26);
        for (int corners = 2; corners <= 8; corners++) {
            brokenBy(with(corners), NONE);
        }
        sentence("Part 5", "They are met by a row of numbers for edges");
        brokenBy(wants(s(99, -99), e(0, 1, 99)), NONE);
        brokenBy(wants(s(99, -99), e(0, 1, 98)), 1);
        brokenBy(wants(s(99, -99), e(0, 1, 99, 99, 0)), NONE);
        brokenBy(wants(s(98, -98), e(0, 1, 99, 99, 0)), 1);
        brokenBy(wants(s(-99, 99), e(1, 0, 99)), NONE);
        brokenBy(wants(s(-99, 99), e(1, 0, 98)), 1);
        brokenBy(wants(s(0, 0), e(1, 0, 1, 9, 0)), 1);
        brokenBy(wants(s(0, 0), e(1, 0, 1, 9, 0), e(0, 1, 1)), NONE);
        brokenBy(wants(s(5, -5), e(0, 1, 9), e(1, 0, 4, 9, 0)), NONE);
        brokenBy(wants(s(5, -5), e(0, 1, 9), e(1, 0, 5, 9, 0)), 1);
        brokenBy(wants(s(5, -4), e(0, 1, 9)), 3);
        brokenBy(wants(s(4, -5), e(0, 1, 9)), 3);
        brokenBy(wants(s(1, 0), e(0, 1, 9)), 3);
        brokenBy(wants(s(1, 0)), 1);
        brokenBy(wants(s(0, 1)), 2);
        brokenBy(wants(s(-1, 0)), 1);
        CutsetWorks x = some();
        asks(x, true, w -> w.holds(0));
        asks(x, true, w -> w.holds(1));
        x.supply(1, 0, 5);
        asks(x, true, w -> w.holds(0));
        asks(x, false, w -> w.holds(1));
    }

    private static void rowIs(CutsetWorks x, int... dues) {
        for (int edge = 0; edge < dues.length; edge++) {
            int e = edge;
            asks(x, dues[edge], w -> w.meets(0, e));
        }
    }

    private static void meets() {
        sentence("Part 5", "each from its least to its most, such that from each corner goes, less what comes to "
                + "it, just its supply; of all such rows the least one is told.");
        rowIs(wants(s(0, 0), e(0, 1, 5), e(0, 1, 5)), 0, 0);
        rowIs(wants(s(7, -7), e(0, 1, 5), e(0, 1, 5)), 2, 5);
        rowIs(wants(s(5, -5), e(0, 1, 5), e(0, 1, 5)), 0, 5);
        rowIs(wants(s(6, -6), e(0, 1, 5), e(0, 1, 5)), 1, 5);
        rowIs(wants(s(10, -10), e(0, 1, 5), e(0, 1, 5)), 5, 5);
        rowIs(wants(s(7, -7), e(0, 1, 3, 5, 0), e(0, 1, 5)), 3, 4);
        rowIs(wants(s(7, -7), e(0, 1, 5), e(0, 1, 3, 5, 0)), 2, 5);
        rowIs(wants(s(-99, 99), e(0, 1, 99), e(1, 0, 99)), 0, 99);
        rowIs(wants(s(99, -99), e(0, 1, 99, 99, 0), e(0, 1, 0), e(1, 0, 9)), 99, 0, 0);
        // costs do not count, and a ring has what its edges must have
        rowIs(wants(s(5, -5), e(0, 1, 0, 5, -20), e(0, 1, 0, 5, 20)), 0, 5);
        rowIs(wants(s(0, 0, 0), e(1, 2, 9), e(2, 1, 4, 9, 0)), 4, 4);
        // 1 on the first edge is more than 9 on each of the others
        rowIs(wants(s(1, 0, -1), e(0, 2, 1), e(0, 1, 9), e(1, 2, 9)), 0, 1, 1);
        rowIs(wants(s(1, 0, -1), e(0, 1, 9), e(1, 2, 9), e(0, 2, 1)), 0, 0, 1);
        returning(27);
        CutsetWorks x = many(16, e(0, 1, 99));
        x.supply(0, 0, 99);
        x.supply(0, 1, -99);
        asks(x, 99, w -> w.meets(0, 15));
        asks(x, 0, w -> w.meets(0, 14));
        asks(x, 0, w -> w.meets(0, 0));
    }

    private static void meetsRefused() {
        throwing(27, PLACE);
        for (int bad : new int[] {-1, 5, 6, 16, 32, LEAST, GREATEST}) {
            refused(PLACE, Bounds::diamond, x -> x.meets(0, bad));
            refused(PLACE, Bounds::diamond, x -> x.meets(1, bad));
        }
        for (int bad : new int[] {-1, 16, 17, LEAST, GREATEST}) {
            first(27, PLACE, Bounds::full, x -> x.meets(3, bad));
        }
        for (int bad : new int[] {-1, 7, 8, LEAST, GREATEST}) {
            first(27, PLACE, Bounds::stuck, x -> x.meets(0, bad));
        }
        refused(PLACE, () -> with(2), x -> x.meets(0, 0));
        throwing(27, NONE);
        for (int edge = 0; edge < 7; edge++) {
            int e = edge;
            refused(NONE, Bounds::stuck, x -> x.meets(0, e));
        }
        refused(NONE, Bounds::full, x -> x.meets(3, 15));
        refused(NONE, () -> wants(s(99, -99), e(0, 1, 98)), x -> x.meets(0, 0));
        asks(wants(s(98, -98), e(0, 1, 98)), 98, x -> x.meets(0, 0));
    }

    private static void breaks() {
        sentence("Part 5", "If there is none, the crowd is the least set of corners, not empty");
        // by the sum of the set, not by how many it has
        brokenBy(wants(s(3, -8, 5), e(0, 1, 9)), 3);
        brokenBy(wants(s(5, -5, 0, 1), e(0, 1, 9)), 8);
        brokenBy(wants(s(5, -5, 2, -2), e(0, 1, 9), e(2, 3, 1)), 4);
        brokenBy(wants(s(5, -5, 2, -2), e(0, 1, 4), e(2, 3, 1)), 1);
        brokenBy(wants(s(5, -5, 2, -2), e(0, 1, 5), e(2, 3, 2)), NONE);
        // just all corners together have too much
        CutsetWorks x = with(8);
        for (int corner = 0; corner < 7; corner++) {
            x.edge(0, corner, corner + 1, 0, 99, 0);
            x.edge(0, corner + 1, corner, 0, 99, 0);
        }
        brokenBy(x, NONE);
        x.supply(0, 4, 1);
        brokenBy(x, 255);
        x.supply(0, 4, -1);
        brokenBy(x, 255);
        returning(28);
        brokenBy(wants(s(1, 0, 0, 0, 0, 0, 0, 0)), 1);
        brokenBy(wants(s(0, 0, 0, 0, 0, 0, 0, 1)), 128);

        sentence("Part 5", "whose supplies together are more than the mosts of the edges that lead from it less the "
                + "leasts of those that lead into it, or less than the leasts of the edges that lead from it less "
                + "the mosts of those that lead into it.");
        brokenBy(wants(s(5, -5), e(0, 1, 2, 9, 0), e(1, 0, 1, 4, 0)), NONE);
        brokenBy(wants(s(8, -8), e(0, 1, 2, 9, 0), e(1, 0, 1, 4, 0)), NONE);
        brokenBy(wants(s(9, -9), e(0, 1, 2, 9, 0), e(1, 0, 1, 4, 0)), 1);
        brokenBy(wants(s(-2, 2), e(0, 1, 2, 9, 0), e(1, 0, 1, 4, 0)), NONE);
        brokenBy(wants(s(-3, 3), e(0, 1, 2, 9, 0), e(1, 0, 1, 4, 0)), 1);
        brokenBy(wants(s(0, 2, -2), e(0, 1, 9), e(1, 2, 1, 2, 0), e(2, 0, 9)), NONE);
        brokenBy(wants(s(0, 0, 0), e(0, 1, 2, 2, 0), e(1, 2, 1), e(2, 0, 9)), 2);
        brokenBy(wants(s(0, -1, 1), e(0, 1, 2, 2, 0), e(1, 2, 1), e(2, 0, 9)), NONE);
        throwing(28, NONE);
        refused(NONE, Bounds::diamond, w -> w.breaks(0));
        refused(NONE, () -> with(8), w -> w.breaks(0));
        refused(NONE, () -> wants(s(99, -99), e(0, 1, 99)), w -> w.breaks(0));
        asks(wants(s(99, -98), e(0, 1, 99)), 3, w -> w.breaks(0));
    }

    private static void parentsAre(CutsetWorks x, int... dues) {
        asks(x, NONE, w -> w.parent(0, 0));
        for (int corner = 1; corner <= dues.length; corner++) {
            int c = corner;
            asks(x, dues[corner - 1], w -> w.parent(0, c));
        }
        asks(x, PLACE, w -> w.parent(0, dues.length + 1));
    }

    private static void parent() {
        sentence("Part 6", "All corners have the parent 0 at first, and 0 has none; then for each corner from 1 on: "
                + "its sum is the least cut between it and its parent, and of the corners that are on its side in "
                + "all least cuts between them, those with greater numbers and the same parent get it as their "
                + "parent.");
        parentsAre(with(2), 0);
        parentsAre(with(8), 0, 0, 0, 0, 0, 0, 0);
        parentsAre(with(2, e(1, 0, 9)), 0);
        // in a line each one has the one ahead of it
        parentsAre(with(4, e(1, 0, 5), e(1, 2, 3), e(3, 2, 4)), 0, 1, 2);
        // 1 lies beyond 2, but its number is less; so does 1 beyond 3
        parentsAre(with(4, e(0, 3, 5), e(3, 2, 4), e(2, 1, 3)), 0, 0, 0);
        // 3 lies beyond 2 as well, but has the parent 1 by then
        parentsAre(with(4, e(0, 2, 5), e(2, 1, 3), e(1, 3, 4)), 0, 0, 1);
        // in one least cut 2 lies beyond 1, but not in all; with 1 more between them it does
        parentsAre(with(3, e(0, 1, 2), e(1, 2, 1), e(0, 2, 1)), 0, 0);
        parentsAre(with(3, e(0, 1, 2), e(1, 2, 2), e(0, 2, 1)), 0, 1);
        parentsAre(with(3, e(0, 1, 9), e(1, 2, 1)), 0, 1);
        // 1 lies beyond nothing, 2 lies beyond nothing: a star
        parentsAre(with(4, e(0, 1, 1), e(0, 2, 1), e(0, 3, 1)), 0, 0, 0);
        parentsAre(with(8, e(1, 0, 1), e(2, 1, 9), e(3, 1, 9), e(1, 4, 9), e(1, 5, 9), e(6, 1, 9), e(1, 7, 9)), 0, 1, 1,
                1, 1, 1, 1);
        CutsetWorks line = with(8);
        for (int corner = 1; corner < 8; corner++) {
            line.edge(0, corner, corner - 1, 0, 99, 0);
        }
        returning(29);
        parentsAre(line, 0, 1, 2, 3, 4, 5, 6);
        sentence("Part 6", "Here edges can be gone along both ways, each with its most.");
        parentsAre(with(4, e(0, 1, 5), e(2, 1, 3), e(2, 3, 4)), 0, 1, 2);
        parentsAre(with(3, e(0, 1, 1), e(1, 0, 1), e(2, 1, 1), e(1, 2, 1), e(0, 2, 1)), 0, 1);
        // leasts do not count
        parentsAre(with(3, e(0, 1, 2, 2, 0), e(1, 2, 1, 1, 0), e(2, 0, 1, 1, 0)), 0, 0);
    }

    private static void parentRefused() {
        throwing(29, PLACE);
        for (int corners : new int[] {2, 4, 8}) {
            for (int bad : new int[] {-1, corners, corners + 1, 8, 32, 256, LEAST, GREATEST}) {
                refused(PLACE, () -> with(corners), x -> x.parent(0, bad));
                refused(PLACE, () -> with(corners), x -> x.parent(1, bad));
            }
            throwing(29, NONE);
            refused(NONE, () -> with(corners), x -> x.parent(0, 0));
            throwing(29, PLACE);
            first(29, PLACE, () -> with(corners), x -> x.parent(1, 0));
            first(29, PLACE, () -> with(corners), x -> x.parent(-1, 0));
        }
        throwing(29, NONE);
        refused(NONE, Bounds::full, x -> x.parent(3, 0));
        refused(NONE, Bounds::diamond, x -> x.parent(0, 0));
    }

    private static void betweenIs(CutsetWorks x, int one, int other, int due) {
        asks(x, due, w -> w.between(0, one, other));
        asks(x, due, w -> w.between(0, other, one));
    }

    private static void between() {
        returning(30);
        betweenIs(many(16, e(0, 1, 99)), 0, 1, 1584);
        betweenIs(many(16, e(1, 0, 99)), 0, 1, 1584);
        betweenIs(with(2), 0, 1, 0);
        betweenIs(with(2, e(0, 1, 0)), 0, 1, 0);
        betweenIs(with(8, e(0, 7, 1)), 0, 7, 1);
        betweenIs(with(8, e(0, 7, 1)), 6, 7, 0);
        sentence("Part 6", "The least cut between two corners has the least sum of the mosts of edges with one end "
                + "in a set of corners that has the one and not the other.");
        betweenIs(with(2, e(0, 1, 3), e(1, 0, 4)), 0, 1, 7);
        betweenIs(with(3, e(0, 1, 2, 2, 9), e(1, 2, 3), e(0, 2, 4)), 0, 1, 5);
        betweenIs(with(3, e(0, 1, 2, 2, 9), e(1, 2, 3), e(0, 2, 4)), 0, 2, 6);
        betweenIs(with(3, e(0, 1, 2, 2, 9), e(1, 2, 3), e(0, 2, 4)), 1, 2, 5);
        sentence("Part 6", "Between two corners the least cut is the least sum on the way between them in the tree.");
        CutsetWorks line = with(4, e(1, 0, 5), e(1, 2, 3), e(3, 2, 4));
        betweenIs(line, 0, 1, 5);
        betweenIs(line, 0, 2, 3);
        betweenIs(line, 0, 3, 3);
        betweenIs(line, 1, 2, 3);
        betweenIs(line, 1, 3, 3);
        betweenIs(line, 2, 3, 4);
    }

    private static void inSteps() {
        promise(31, "- `steps`: the step, 0 to 8");
        int[] dues = {0, 0, 4, 9, 14, 19, 24, 29, 34};
        for (int step = 0; step <= 8; step++) {
            int steps = step;
            asks(diamond(), dues[step], x -> x.inSteps(0, 0, 3, steps));
            asks(diamond(), 0, x -> x.inSteps(0, 3, 0, steps));
        }
        returning(31);
        asks(many(16, e(0, 1, 99)), 8 * 1584, x -> x.inSteps(0, 0, 1, 8));
        asks(many(16, e(0, 1, 99)), 0, x -> x.inSteps(0, 0, 1, 0));
        asks(many(16, e(0, 1, 99)), 0, x -> x.inSteps(0, 1, 0, 8));
        asks(with(8), 0, x -> x.inSteps(0, 0, 7, 8));
        sentence("Part 7", "In each step along each edge at most its most can set out, from what is at its "
                + "beginning; it is at its end with the next step.");
        for (int length = 1; length < 8; length++) {
            CutsetWorks line = with(8);
            for (int corner = 0; corner < 7; corner++) {
                line.edge(0, corner, corner + 1, 0, 5 + corner, 0);
            }
            int sink = length;
            asks(line, 0, x -> x.inSteps(0, 0, sink, sink - 1));
            asks(line, 5, x -> x.inSteps(0, 0, sink, sink));
            asks(line, 5 * (8 - sink + 1), x -> x.inSteps(0, 0, sink, 8));
        }
        asks(with(2, e(0, 1, 0)), 0, x -> x.inSteps(0, 0, 1, 8));
        asks(with(2, e(0, 1, 1)), 1, x -> x.inSteps(0, 0, 1, 1));
        // a ring on the way brings nothing
        asks(with(3, e(0, 1, 4), e(1, 0, 4), e(1, 2, 4)), 12, x -> x.inSteps(0, 0, 2, 4));
        sentence("Part 7", "At the step 0 the source has as much as is wanted; things can wait.");
        asks(with(3, e(0, 1, 9), e(1, 2, 2)), 6, x -> x.inSteps(0, 0, 2, 4));
        asks(with(3, e(0, 1, 2), e(1, 2, 9)), 6, x -> x.inSteps(0, 0, 2, 4));
        // the short way first, the long one as soon as it can be
        CutsetWorks two = with(4, e(0, 3, 1), e(0, 1, 9), e(1, 2, 9), e(2, 3, 9));
        int[] both = {0, 1, 2, 12, 22, 32, 42, 52, 62};
        for (int step = 0; step <= 8; step++) {
            int steps = step;
            asks(two, both[step], x -> x.inSteps(0, 0, 3, steps));
        }
    }

    private static void inStepsRefused() {
        throwing(31, ARGUMENT);
        for (int bad : new int[] {-1, 9, 10, -2, -8, 16, 32, 256, LEAST, GREATEST}) {
            refused(ARGUMENT, Bounds::diamond, x -> x.inSteps(0, 0, 3, bad));
            refused(ARGUMENT, Bounds::diamond, x -> x.inSteps(0, 0, 0, bad));
            first(31, PLACE, Bounds::diamond, x -> x.inSteps(1, 0, 3, bad));
            first(31, PLACE, Bounds::empty, x -> x.inSteps(0, 0, 0, bad));
        }
        for (int step : new int[] {0, 8}) {
            refused(ARGUMENT, Bounds::diamond, x -> x.inSteps(0, 2, 2, step));
            refused(ARGUMENT, Bounds::diamond, x -> x.inSteps(0, 4, 2, step));
        }
    }

    private static void onlyMostsCount() {
        sentence("Part 7", "Here nothing but mosts counts.");
        for (int step = 0; step <= 8; step++) {
            int steps = step;
            int due = step < 2 ? 0 : 2 * (step - 1);
            asks(with(3, e(0, 1, 5, 5, -20), e(1, 2, 0, 2, 20)), due, x -> x.inSteps(0, 0, 2, steps));
            asks(with(3, e(0, 1, 0, 5, 20), e(1, 2, 2, 2, -20)), due, x -> x.inSteps(0, 0, 2, steps));
            asks(wants(s(99, -99, 7), e(0, 1, 0, 5, 20), e(1, 2, 2, 2, -20)), due, x -> x.inSteps(0, 0, 2, steps));
        }
        asks(stuck(), 1, x -> x.inSteps(0, 0, 3, 3));
        asks(stuck(), 2, x -> x.inSteps(0, 0, 3, 4));
    }
}
