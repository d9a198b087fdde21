/** What all calls with a source and a sink have in common, call by call. */
final class BoundsOfEnds extends Calls {
    private static final int[] SIZES = {2, 3, 7, 8};
    /** The promises whose calls throw if there is no flow, but for wider and without. */
    private static final int[] NEED_FLOW = {8, 9, 11, 13, 14, 18, 19, 20, 49, 50};

    private BoundsOfEnds() {
    }

    static void test() {
        for (Ends call : ENDS) {
            wrongEnds(call);
        }
        for (OfEdge call : OF_EDGES) {
            wrongEnds(new Ends(call.promise(), (x, net, s, t) -> call.on(x, net, s, t, 0)));
            wrongEdges(call);
        }
        wrongEnds(new Ends(20, (x, net, s, t) -> x.price(net, s, t, 0)));
        unlikeCorners();
        emptyNets();
        noFlow();
        equalIsEnough();
    }

    private static CutsetWorks line(int corners) {
        return with(corners, e(0, 1, 3));
    }

    private static void wrongEnds(Ends call) {
        int promise = call.promise();
        throwing(promise, ARGUMENT);
        for (int corners : SIZES) {
            Making making = () -> line(corners);
            for (int bad : new int[] {-1, corners, corners + 1, 8, 31, 32, 33, 256, -32, LEAST, LEAST + 1, GREATEST}) {
                refused(ARGUMENT, making, x -> call.on(x, 0, bad, 0));
                refused(ARGUMENT, making, x -> call.on(x, 0, corners - 1, bad));
                refused(ARGUMENT, making, x -> call.on(x, 0, bad, bad));
                first(promise, PLACE, making, x -> call.on(x, 1, bad, 0));
                first(promise, PLACE, making, x -> call.on(x, -1, 0, bad));
            }
            for (int corner = 0; corner < corners; corner++) {
                int c = corner;
                refused(ARGUMENT, making, x -> call.on(x, 0, c, c));
                first(promise, PLACE, making, x -> call.on(x, 1, c, c));
            }
            due(answer(line(corners), x -> call.on(x, 0, 0, corners - 1)) != ARGUMENT, true);
            due(answer(line(corners), x -> call.on(x, 0, corners - 1, 0)) != ARGUMENT, true);
        }
        // with wrong corners it is not asked whether something flows, or whether leasts are 0
        for (int corner = 0; corner < 6; corner++) {
            int c = corner;
            first(promise, ARGUMENT, Bounds::stuck, x -> call.on(x, 0, c, c));
            first(promise, ARGUMENT, Bounds::stuck, x -> call.on(x, 0, c, 6));
            first(promise, ARGUMENT, Bounds::stuck, x -> call.on(x, 0, -1, c));
        }
        first(promise, PLACE, Bounds::stuck, x -> call.on(x, 1, 0, 1));
    }

    private static void wrongEdges(OfEdge call) {
        int promise = call.promise();
        throwing(promise, PLACE);
        for (int bad : new int[] {-1, 5, 6, 15, 16, 32, 256, LEAST, GREATEST}) {
            refused(PLACE, Bounds::diamond, x -> call.on(x, 0, 0, 3, bad));
            first(promise, PLACE, Bounds::diamond, x -> call.on(x, 0, 0, 0, bad));
            first(promise, PLACE, Bounds::diamond, x -> call.on(x, 0, -1, 4, bad));
        }
        for (int bad : new int[] {-1, 7, 8, LEAST, GREATEST}) {
            first(promise, PLACE, Bounds::stuck, x -> call.on(x, 0, 0, 1, bad));
        }
        for (int bad : new int[] {-1, 16, 17, LEAST, GREATEST}) {
            refused(PLACE, Bounds::full, x -> call.on(x, 3, 0, 1, bad));
        }
        refused(PLACE, () -> with(2), x -> call.on(x, 0, 0, 1, 0));
        due(answer(diamond(), x -> call.on(x, 0, 0, 3, 4)) != PLACE, true);
        due(answer(full(), x -> call.on(x, 3, 0, 3, 15)) != PLACE, true);
        // an edge that is dropped is there no more
        refused(PLACE, () -> {
            CutsetWorks x = diamond();
            x.drop(0, 0);
            return x;
        }, x -> call.on(x, 0, 0, 3, 4));
    }

    private static void unlikeCorners() {
        sentence("Part 2", "A flow between two unlike corners, the source and the sink");
        for (Ends call : ENDS) {
            asks(diamond(), ARGUMENT, x -> call.on(x, 0, 0, 0));
            asks(diamond(), ARGUMENT, x -> call.on(x, 0, 3, 3));
        }
        asks(diamond(), 5, x -> x.most(0, 0, 3));
        asks(diamond(), 3, x -> x.most(0, 0, 1));
        asks(diamond(), 4, x -> x.most(0, 2, 3));
    }

    /** Nothing there yet: what is answered then for each two corners. */
    private static void emptyNets() {
        for (int corners : SIZES) {
            for (int source = 0; source < corners; source++) {
                for (int sink = 0; sink < corners; sink++) {
                    if (source != sink) {
                        emptyNet(corners, source, sink);
                    }
                }
            }
        }
    }

    private static void emptyNet(int corners, int source, int sink) {
        Object[] dues = {0, NONE, 1 << source, (1 << corners) - 1 - (1 << sink), 0, 1 << corners - 2, 0, NONE, NONE, 0,
            0, 0, 0, 0, 0, NONE, NONE};
        for (int index = 0; index < ENDS.length; index++) {
            Ends call = ENDS[index];
            if (dues[index] instanceof Class<?> thrown) {
                throwing(call.promise(), thrown);
            } else {
                returning(call.promise());
            }
            asks(with(corners), dues[index], x -> call.on(x, 0, source, sink));
        }
        returning(20);
        asks(with(corners), 0, x -> x.price(0, source, sink, source));
        throwing(20, NONE);
        asks(with(corners), NONE, x -> x.price(0, source, sink, sink));
    }

    private static void noFlow() {
        for (int source = 0; source < 6; source++) {
            for (int sink = 0; sink < 6; sink++) {
                if (source != sink) {
                    noFlow(source, sink);
                }
            }
        }
    }

    private static void noFlow(int s, int t) {
        for (int promise : NEED_FLOW) {
            throwing(promise, NONE);
            for (Ends call : ENDS) {
                if (call.promise() == promise) {
                    refused(NONE, Bounds::stuck, x -> call.on(x, 0, s, t));
                }
            }
            for (OfEdge call : OF_EDGES) {
                if (call.promise() == promise) {
                    refused(NONE, Bounds::stuck, x -> call.on(x, 0, s, t, 6));
                }
            }
        }
        throwing(20, NONE);
        refused(NONE, Bounds::stuck, x -> x.price(0, s, t, s));
        throwing(20, PLACE);
        first(20, PLACE, Bounds::stuck, x -> x.price(0, s, t, 6));
        returning(10);
        due(answer(stuck(), x -> x.crowd(0, s, t)) instanceof Integer, true);
    }

    /** So much as leaves 1 at least goes into it at most, or 1 less. */
    private static CutsetWorks strait(int least, int most) {
        return with(3, e(0, 1, 0, most, 1), e(1, 2, least, 99, 1));
    }

    private static void equalIsEnough() {
        for (int amount : new int[] {0, 1, 50, 98}) {
            sentence("Part 2", "such that the leasts of the edges that lead from it, together, are more than the "
                    + "mosts of those that lead into it");
            asks(strait(amount, amount), NONE, x -> x.crowd(0, 0, 2));
            asks(strait(amount + 1, amount), 2, x -> x.crowd(0, 0, 2));
            for (int promise : NEED_FLOW) {
                throwing(promise, NONE);
                for (Ends call : ENDS) {
                    if (call.promise() == promise) {
                        due(answer(strait(amount, amount), x -> call.on(x, 0, 0, 2)) instanceof Number, true);
                        refused(NONE, () -> strait(amount + 1, amount), x -> call.on(x, 0, 0, 2));
                    }
                }
                for (OfEdge call : OF_EDGES) {
                    if (call.promise() == promise) {
                        due(answer(strait(amount, amount), x -> call.on(x, 0, 0, 2, 1)) != NONE, true);
                        refused(NONE, () -> strait(amount + 1, amount), x -> call.on(x, 0, 0, 2, 1));
                    }
                }
            }
            throwing(20, NONE);
            asks(strait(amount, amount), 0, x -> x.price(0, 0, 2, 0));
            refused(NONE, () -> strait(amount + 1, amount), x -> x.price(0, 0, 2, 0));
        }
    }
}
