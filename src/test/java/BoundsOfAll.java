import java.util.ArrayList;
import java.util.List;

/** Promises 49 to 51, what is said of exceptions, and the calls for which an object is used. */
final class BoundsOfAll extends Calls {
    private BoundsOfAll() {
    }

    static void test() {
        fullShare();
        meanFlow();
        isSound();
        whatIsSound();
        nothingChanges();
        toldAnew();
        onlyWhatIsTold();
        inAnyOrder();
        lastCall();
    }

    private static void fullShare() {
        returning(49);
        asks(with(2, e(0, 1, 1)), 1f, x -> x.fullShare(0, 0, 1));
        asks(with(2, e(0, 1, 1)), 0f, x -> x.fullShare(0, 1, 0));
        asks(with(2, e(0, 1, 0)), 1f, x -> x.fullShare(0, 1, 0));
        asks(many(16, e(0, 1, 99, 99, 0)), 1f, x -> x.fullShare(0, 1, 0));
        asks(many(16, e(0, 1, 98, 99, 0)), 0f, x -> x.fullShare(0, 1, 0));
        for (int edges = 1; edges <= 16; edges++) {
            // one edge of so many has its most
            CutsetWorks x = many(edges - 1, e(1, 0, 1));
            x.edge(0, 0, 1, 0, 1, 0);
            asks(x, 1f / (float) edges, w -> w.fullShare(0, 0, 1));
            asks(x, (float) (edges - 1) / (float) edges, w -> w.fullShare(0, 1, 0));
        }
        // by the flow that is told, not by another greatest one, nor by a cheapest one
        asks(with(3, e(0, 1, 0, 5, -9), e(0, 1, 0, 5, 9), e(1, 2, 7)), 2f / 3f, x -> x.fullShare(0, 0, 2));
        asks(with(3, e(0, 1, 0, 2, -9), e(0, 1, 0, 9, 9), e(1, 2, 5)), 1f / 3f, x -> x.fullShare(0, 0, 2));
        asks(with(3, e(0, 1, 0, 4, -9), e(0, 1, 0, 4, -9), e(0, 1, 0, 5, 9), e(1, 2, 5)), 1f / 2f,
                x -> x.fullShare(0, 0, 2));
        throwing(49, NONE);
        for (int corners = 2; corners <= 8; corners++) {
            int many = corners;
            refused(NONE, () -> with(many), x -> x.fullShare(0, 0, many - 1));
            refused(NONE, () -> with(many), x -> x.meanFlow(0, 0, many - 1));
            first(49, ARGUMENT, () -> with(many), x -> x.fullShare(0, 1, 1));
            first(49, ARGUMENT, () -> with(many), x -> x.fullShare(0, 0, many));
            first(49, PLACE, () -> with(many), x -> x.fullShare(1, 0, 0));
        }
        refused(NONE, Bounds::stuck, x -> x.fullShare(0, 0, 3));
    }

    private static void meanFlow() {
        returning(50);
        asks(with(2, e(0, 1, 1)), 1.0, x -> x.meanFlow(0, 0, 1));
        asks(with(2, e(0, 1, 1)), 0.0, x -> x.meanFlow(0, 1, 0));
        asks(many(16, e(0, 1, 99)), 99.0, x -> x.meanFlow(0, 0, 1));
        asks(many(16, e(0, 1, 99, 99, 0)), 99.0, x -> x.meanFlow(0, 1, 0));
        for (int edges = 1; edges <= 16; edges++) {
            CutsetWorks x = many(edges - 1, e(1, 0, 1));
            x.edge(0, 0, 1, 0, 98, 0);
            asks(x, 98.0 / (double) edges, w -> w.meanFlow(0, 0, 1));
            asks(x, (double) (edges - 1) / (double) edges, w -> w.meanFlow(0, 1, 0));
        }
        asks(with(4, e(0, 3, 1), e(0, 1, 1), e(1, 2, 1), e(2, 3, 1)), 1.0, x -> x.meanFlow(0, 0, 3));
        // the told flow takes the way of more edges, as it does not begin with the first edge
        asks(with(5, e(0, 3, 1), e(0, 1, 1), e(1, 2, 1), e(2, 3, 1), e(3, 4, 1)), 4.0 / 5.0, x -> x.meanFlow(0, 0, 4));
        asks(with(5, e(0, 3, 0, 1, -9), e(0, 1, 1), e(1, 2, 1), e(2, 3, 1), e(3, 4, 1)), 4.0 / 5.0,
                x -> x.meanFlow(0, 0, 4));
        throwing(50, NONE);
        for (int corners = 2; corners <= 8; corners++) {
            int many = corners;
            refused(NONE, () -> with(many), x -> x.meanFlow(0, 0, many - 1));
            first(50, ARGUMENT, () -> with(many), x -> x.meanFlow(0, 1, 1));
            first(50, ARGUMENT, () -> with(many), x -> x.meanFlow(0, 0, many));
            first(50, PLACE, () -> with(many), x -> x.meanFlow(1, 0, 0));
        }
        refused(NONE, Bounds::stuck, x -> x.meanFlow(0, 0, 3));
        refused(NONE, () -> {
            CutsetWorks x = with(2, e(0, 1, 1));
            x.drop(0, 0);
            return x;
        }, x -> x.meanFlow(0, 0, 1));
    }

    private static void isSound() {
        returning(51);
        Making[] makings = {Bounds::empty, Bounds::diamond, Bounds::stuck, Bounds::some, Bounds::full, () -> with(2),
            () -> with(8), () -> many(16, e(0, 1, 99, 99, 20)), () -> many(16, e(1, 0, 99, 99, -20)),
            () -> many(16, e(0, 1, 0, 99, -20)), () -> many(16, e(0, 1, 0)), () -> many(1, e(0, 1, 1)),
            () -> with(3, e(0, 1, 0, 5, 0), e(1, 2, 0, 5, -1), e(2, 1, 0, 3, -1)),
            () -> with(3, e(0, 1, 3, 3, 0), e(1, 2, 2)),
            // prices that two ways bind, or one, or that bind backward
            () -> with(4, e(0, 1, 0, 9, 6), e(0, 2, 0, 9, 2), e(2, 1, 0, 9, 3), e(1, 3, 4)),
            () -> with(5, e(3, 2, 0, 1, 2), e(2, 1, 0, 1, 3), e(0, 1, 0, 9, 4), e(0, 3, 1, 1, 5), e(1, 4, 3)),
            () -> with(4, e(0, 1, 0, 9, -6), e(0, 2, 0, 9, -2), e(2, 1, 0, 9, -3), e(1, 2, 0, 2, 3), e(1, 3, 4)),
            // trees that are no stars
            () -> with(8, e(1, 0, 9), e(2, 1, 8), e(3, 2, 7), e(4, 3, 6), e(5, 4, 5), e(6, 5, 4), e(7, 6, 3)),
            () -> with(6, e(0, 5, 3), e(5, 3, 4), e(3, 1, 2), e(1, 4, 7), e(4, 2, 1), e(2, 5, 6), e(4, 0, 2)),
            BoundsOfAll::tabled};
        for (Making making : makings) {
            CutsetWorks x = making.make();
            asks(x, true, CutsetWorks::isSound);
            asks(x, true, CutsetWorks::isSound);
        }
        // asking changes nothing
        due(everything(asked(full())), everything(full()));
        due(everything(asked(some())), everything(some()));
        CutsetWorks x = full();
        x.tell(3, 3, 999);
        x.likes(7, 1);
        x.drop(3, 0);
        asks(x, true, CutsetWorks::isSound);
    }

    /** A cover with left ones, one left one that is not paired, and a table whose sums are not whole. */
    private static CutsetWorks tabled() {
        CutsetWorks x = new CutsetWorks();
        x.likes(0, 7);
        x.likes(1, 56);
        x.likes(2, 64);
        x.likes(3, 64);
        x.table(3, 4);
        for (int place = 0; place < 12; place++) {
            x.tell(place / 4, place % 4, 37 * place % 50 + 15);
        }
        return x;
    }

    /** What isSound() looks at, asked of the face itself: each row is a net with its edges. */
    private static void whatIsSound() {
        int[][][] nets = {{}, {e(0, 1, 99)}, {e(1, 0, 5, 9, -3)},
            {e(0, 1, 0, 3, 1), e(0, 2, 0, 2, 4), e(1, 2, 0, 2, 0), e(1, 3, 0, 2, 5), e(2, 3, 0, 4, 1)},
            {e(0, 1, 1, 9, -5), e(1, 2, 0, 7, 20), e(2, 1, 2, 4, -20), e(1, 3, 0, 6, 2), e(3, 0, 0, 3, 1)},
            {e(0, 1, 0, 9, -5), e(1, 2, 0, 7, 20), e(2, 1, 0, 4, -20), e(1, 3, 0, 6, 2), e(3, 1, 0, 3, 1)},
            {e(0, 1, 0, 9, 6), e(0, 2, 0, 3, 2), e(2, 1, 0, 9, 3), e(1, 3, 0, 4, 0)},
            {e(1, 2, 4, 9, 0), e(0, 1, 0, 3, 0)}, {e(1, 2, 3, 9, 0), e(0, 1, 0, 3, 0), e(2, 3, 9)}};
        for (int[][] edges : nets) {
            for (int corners : new int[] {4, 8}) {
                sentence("Promise 51", "that the greatest amount is the sum of the near and of the far cut");
                Object most = answer(with(corners, edges), x -> x.most(0, 0, corners - 1));
                if (most == NONE) {
                    crowdProves(corners, edges);
                } else {
                    cutsProve(corners, edges, (Integer) most);
                    pricesShow(corners, edges);
                }
            }
        }
    }

    private static void crowdProves(int corners, int[][] edges) {
        sentence("Terms", "Where nothing can be, a crowd is told that proves it.");
        int set = with(corners, edges).crowd(0, 0, corners - 1);
        int more = 0;
        for (int[] edge : edges) {
            boolean begins = (set >> edge[0] & 1) != 0;
            boolean ends = (set >> edge[1] & 1) != 0;
            more += begins && !ends ? edge[2] : !begins && ends ? -edge[3] : 0;
        }
        due(more > 0, true);
        due(set & 1, set >> corners - 1 & 1);
    }

    private static void cutsProve(int corners, int[][] edges, int most) {
        CutsetWorks x = with(corners, edges);
        int sink = corners - 1;
        for (boolean isFar : new boolean[] {false, true}) {
            int set = x.cut(0, 0, sink, isFar);
            asks(x, most, w -> w.cutSum(0, 0, sink, set));
            for (int edge = 0; edge < edges.length; edge++) {
                int e = edge;
                boolean begins = (set >> edges[e][0] & 1) != 0;
                boolean ends = (set >> edges[e][1] & 1) != 0;
                if (begins != ends) {
                    asks(x, edges[e][begins ? 3 : 2], w -> w.flow(0, 0, sink, e));
                }
            }
        }
        Object rounds = answer(x, w -> w.rounds(0, 0, sink));
        if (rounds instanceof Integer many) {
            sentence("Terms", "end after at most as many rounds as corners times edges");
            due(many <= corners * edges.length, true);
            int sum = 0;
            for (int round = 0; round < many; round++) {
                sum += x.roundAmount(0, 0, sink, round);
            }
            due(sum, most);
        }
    }

    private static void pricesShow(int corners, int[][] edges) {
        sentence("Terms", "one is cheapest just if no ring of what is left costs less than nothing, which prices "
                + "show");
        CutsetWorks x = with(corners, edges);
        int sink = corners - 1;
        int cost = 0;
        for (int edge = 0; edge < edges.length; edge++) {
            int e = edge;
            int number = x.cheapest(0, 0, sink, e);
            cost += number * edges[e][4];
            Object begins = answer(x, w -> w.price(0, 0, sink, edges[e][0]));
            Object ends = answer(x, w -> w.price(0, 0, sink, edges[e][1]));
            if (number < edges[e][3] && begins instanceof Integer from) {
                due(ends instanceof Integer to && to <= from + edges[e][4], true);
            }
            if (number > edges[e][2] && ends instanceof Integer to) {
                due(begins instanceof Integer from && to >= from + edges[e][4], true);
            }
        }
        asks(x, cost, w -> w.cost(0, 0, sink));
    }

    private static CutsetWorks asked(CutsetWorks x) {
        x.isSound();
        return x;
    }

    /** All calls that only ask, wherever they answer or throw: they leave all as it is. */
    private static void nothingChanges() {
        sentence("Exceptions", "A method that throws an exception changes nothing.");
        Making[] makings = {Bounds::empty, Bounds::diamond, Bounds::stuck, Bounds::some, Bounds::full};
        for (Making making : makings) {
            CutsetWorks x = making.make();
            for (OfNet call : OF_NETS) {
                if (call.promise() > 7) {
                    answer(x, w -> call.on(w, 0));
                    answer(x, w -> call.on(w, 4));
                }
            }
            due(everything(x), everything(making.make()));
            CutsetWorks y = making.make();
            List<Object> one = answers(y);
            List<Object> again = answers(y);
            due(one, again);
            due(everything(y), everything(making.make()));
            // a call that is refused between them changes no answer
            CutsetWorks z = making.make();
            z.isSound();
            due(answer(z, w -> w.edge(0, 0, 0, 0, 0, 0)) instanceof Class<?>, true);
            due(answer(z, w -> w.table(5, 5)), ARGUMENT);
            due(answer(z, w -> w.likes(0, 256)), ARGUMENT);
            due(answers(z), one);
        }
    }

    private static List<Object> answers(CutsetWorks x) {
        List<Object> all = new ArrayList<>();
        for (OfNet call : OF_NETS) {
            if (call.promise() > 7) {
                all.add(answer(x, w -> call.on(w, 0)));
                all.add(answer(x, w -> call.on(w, 3)));
            }
        }
        all.add(answer(x, CutsetWorks::pairs));
        all.add(answer(x, w -> w.pairOf(7)));
        all.add(answer(x, w -> w.cover(true)));
        all.add(answer(x, w -> w.cover(false)));
        all.add(answer(x, CutsetWorks::crowdOfLeft));
        all.add(answer(x, w -> w.canWin(0)));
        all.add(answer(x, w -> w.against(0)));
        all.add(answer(x, w -> w.rounded(0, 0)));
        all.add(answer(x, CutsetWorks::best));
        all.add(answer(x, w -> w.chosen(true)));
        all.add(answer(x, w -> w.chosen(false)));
        all.add(answer(x, CutsetWorks::isSound));
        return all;
    }

    /** What is told anew counts, and nothing that was asked ahead of it. */
    private static void toldAnew() {
        sentence("Not promised", "Nothing is promised beyond the answers and state changes described above");
        for (Making making : new Making[] {Bounds::full, Bounds::some, Bounds::stuck}) {
            CutsetWorks x = making.make();
            List<Object> before = answers(x);
            tellAnew(x);
            CutsetWorks y = making.make();
            tellAnew(y);
            List<Object> due = answers(y);
            due(answers(x), due);
            due(before.equals(due), false);
            due(everything(x), everything(y));
        }
    }

    private static void tellAnew(CutsetWorks x) {
        for (int edge = 0; edge < 16; edge++) {
            int e = edge;
            answer(x, w -> w.change(0, e, 0, 1 + e % 5, 7 - e));
        }
        for (int corner = 0; corner < 8; corner++) {
            int c = corner;
            answer(x, w -> w.supply(0, c, 0));
            answer(x, w -> w.drop(3, c));
            answer(x, w -> w.likes(c, 128 >> c / 2));
            answer(x, w -> w.toolCost(c, 99));
            answer(x, w -> w.games(0, c, 0));
        }
        answer(x, w -> w.table(2, 2));
        answer(x, w -> w.tell(0, 0, 15));
        answer(x, w -> w.tell(1, 1, 25));
    }

    /** A call and the one that tells what was there ahead of it leave all as it was. */
    private static void onlyWhatIsTold() {
        sentence("Not promised", "Nothing is promised beyond the answers and state changes described above");
        Asking[][] pairs = {
            {x -> x.change(1, 0, 0, 99, 20), x -> x.change(1, 0, 1, 4, -3)},
            {x -> x.edge(1, 1, 0, 3, 9, 1), x -> x.drop(1, 1)},
            {x -> x.drop(1, 0), x -> x.edge(1, 0, 2, 1, 4, -3)},
            {x -> x.drop(0, 4), x -> x.edge(0, 2, 3, 0, 4, 1)},
            {x -> x.supply(1, 0, -99), x -> x.supply(1, 0, 3)},
            {x -> x.supply(0, 3, 99), x -> x.supply(0, 3, 0)},
            {x -> x.likes(0, 255), x -> x.likes(0, 3)},
            {x -> x.likes(7, 0), x -> x.likes(7, 1)},
            {x -> x.games(2, 1, 9), x -> x.games(1, 2, 4)},
            {x -> x.games(0, 1, 5), x -> x.games(1, 0, 0)},
            {x -> x.tell(1, 2, 999), x -> x.tell(1, 2, 456)},
            {x -> x.tell(0, 0, 1), x -> x.tell(0, 0, 0)},
            {x -> x.toolCost(7, 99), x -> x.toolCost(7, 9)},
            {x -> x.toolCost(3, 1), x -> x.toolCost(3, 0)}};
        for (Asking[] pair : pairs) {
            CutsetWorks x = some();
            due(answer(x, pair[0]) instanceof Integer, true);
            CutsetWorks half = some();
            answer(half, pair[0]);
            due(everything(half).equals(everything(some())), false);
            due(answer(x, pair[1]) instanceof Integer, true);
            due(everything(x), everything(some()));
        }
        changesOnly(x -> x.net(4), 6, 9);
        changesOnly(x -> x.edge(1, 0, 1, 1, 9, 9), 3, 6);
        changesOnly(x -> x.drop(1, 0), 3, 6);
        changesOnly(x -> x.drop(0, 0), 0, 3);
        changesOnly(x -> x.supply(1, 1, 5), 4, 5);
        changesOnly(x -> x.likes(1, 4), 12, 19);
        changesOnly(x -> x.project(99, 1), 13, 33);
        changesOnly(x -> x.toolCost(1, 8), 13, 20);
        changesOnly(x -> x.team(99), 33, 61);
        changesOnly(x -> x.games(0, 1, 9), 33, 60);
        changesOnly(x -> x.table(4, 4), 61, 77);
        changesOnly(x -> x.tell(1, 1, 1), 66, 67);
    }

    /** Of all answers only those from the first to ahead of the last one have changed; the last of all is net's own. */
    private static void changesOnly(Asking call, int first, int behind) {
        List<Object> before = everyAnswer(some());
        CutsetWorks x = some();
        due(answer(x, call) instanceof Integer, true);
        List<Object> then = everyAnswer(x);
        due(then.subList(0, first), before.subList(0, first));
        due(then.subList(first, behind).equals(before.subList(first, behind)), false);
        due(then.subList(behind, then.size() - 1), before.subList(behind, before.size() - 1));
        due(then.get(then.size() - 1), first == 6 ? 3 : 2);
    }

    /** An answer does not hang on which calls that only ask came ahead of it. */
    private static void inAnyOrder() {
        Asking[] calls = {CutsetWorks::isSound, x -> x.rounded(1, 1), CutsetWorks::crowdOfLeft, x -> x.cover(false),
            x -> x.pairOf(1), CutsetWorks::pairs, CutsetWorks::best, x -> x.chosen(false), x -> x.chosen(true),
            x -> x.against(1), x -> x.roundSign(0, 0, 3, 2, 1), x -> x.roundAmount(0, 0, 3, 0), x -> x.rounds(0, 3, 0),
            x -> x.between(0, 1, 3), x -> x.parent(0, 2), x -> x.meets(1, 0), x -> x.breaks(0),
            x -> x.cheapest(0, 0, 3, 3), x -> x.price(0, 0, 3, 1), x -> x.flow(0, 0, 3, 2), x -> x.flow(1, 0, 2, 0),
            x -> x.most(0, 1, 3), x -> x.cut(0, 0, 3, true), x -> x.cuts(1, 0, 2), x -> x.cornerWays(0, 0, 3),
            x -> x.edgeWays(0, 0, 3), x -> x.apart(0, 0, 3), x -> x.wider(0, 0, 3, 0), x -> x.without(0, 0, 3, 4),
            x -> x.inSteps(0, 0, 3, 8),
            x -> x.meanFlow(0, 0, 3), x -> x.fullShare(0, 0, 3), x -> x.isFull(0, 0, 3, 1), x -> x.crowd(1, 0, 1)};
        for (Asking call : calls) {
            Object due = answer(some(), call);
            for (Asking ahead : calls) {
                CutsetWorks x = some();
                answer(x, ahead);
                asks(x, due, call);
            }
        }
    }

    private static void lastCall() {
        sentence("What it is", "An object is used for at most 512 calls after it has been made");
        Asking[] dear = {CutsetWorks::isSound, x -> x.cheapest(3, 0, 7, 15), x -> x.inSteps(3, 0, 7, 8),
            x -> x.parent(3, 7), x -> x.rounded(3, 3), x -> x.meets(3, 15), x -> x.edge(0, 0, 1, 0, 1, 0),
            x -> x.net(9), x -> x.flow(0, 7, 0, 0), x -> x.pairOf(7), x -> x.cornerWays(3, 0, 7)};
        for (Asking call : dear) {
            // what full() has called itself: 4 nets with 16 edges and 8 supplies each, and the rest
            CutsetWorks x = full();
            int used = 4 * (1 + 16 + 8) + 6 + 15 + 1 + 16 + 3 * 8;
            Object due = answer(full(), call);
            useUp(x, used, call);
            asks(x, due, call);
        }
        CutsetWorks x = empty();
        useUp(x, 0, w -> w.net(1));
        asks(x, 0, w -> w.net(8));
        CutsetWorks y = with(2);
        useUp(y, 1, w -> w.change(0, 0, 0, 0, 0));
        asks(y, 0, w -> w.edge(0, 0, 1, 0, 0, 0));
        CutsetWorks z = with(2);
        z.edge(0, 0, 1, 0, 5, 0);
        for (int number = 2; number < 511; number++) {
            int most = number % 100;
            z.change(0, 0, 0, most, 0);
        }
        asks(z, 10, w -> w.most(0, 0, 1));
    }
}
