/** The calls of the face that take a net: each with what else it takes as it should be. */
abstract class Calls extends Bounds {
    /** A call, by its promise. */
    record OfNet(int promise, OnNet call) {
        Object on(CutsetWorks x, int net) {
            return call.on(x, net);
        }
    }

    /** One that takes a source and a sink besides. */
    record Ends(int promise, OnEnds call) {
        Object on(CutsetWorks x, int net, int source, int sink) {
            return call.on(x, net, source, sink);
        }
    }

    /** One that takes an edge behind them. */
    record OfEdge(int promise, OnEdge call) {
        Object on(CutsetWorks x, int net, int source, int sink, int edge) {
            return call.on(x, net, source, sink, edge);
        }
    }

    interface OnNet {
        Object on(CutsetWorks x, int net);
    }

    interface OnEnds {
        Object on(CutsetWorks x, int net, int source, int sink);
    }

    interface OnEdge {
        Object on(CutsetWorks x, int net, int source, int sink, int edge);
    }

    static final Ends[] ENDS = {
        new Ends(8, CutsetWorks::most),
        new Ends(10, CutsetWorks::crowd),
        new Ends(11, (x, net, s, t) -> x.cut(net, s, t, false)),
        new Ends(11, (x, net, s, t) -> x.cut(net, s, t, true)),
        new Ends(12, (x, net, s, t) -> x.cutSum(net, s, t, 1 << s)),
        new Ends(13, CutsetWorks::cuts),
        new Ends(15, CutsetWorks::rounds),
        new Ends(16, (x, net, s, t) -> x.roundAmount(net, s, t, 0)),
        new Ends(17, (x, net, s, t) -> x.roundSign(net, s, t, 0, 0)),
        new Ends(18, CutsetWorks::cost),
        new Ends(21, CutsetWorks::edgeWays),
        new Ends(22, CutsetWorks::cornerWays),
        new Ends(23, CutsetWorks::apart),
        new Ends(30, CutsetWorks::between),
        new Ends(31, (x, net, s, t) -> x.inSteps(net, s, t, 3)),
        new Ends(49, CutsetWorks::fullShare),
        new Ends(50, CutsetWorks::meanFlow)};

    static final OfEdge[] OF_EDGES = {
        new OfEdge(9, CutsetWorks::flow),
        new OfEdge(14, CutsetWorks::isFull),
        new OfEdge(19, CutsetWorks::cheapest),
        new OfEdge(24, CutsetWorks::wider),
        new OfEdge(25, CutsetWorks::without)};

    private static final OfNet[] ALONE = {
        new OfNet(3, (x, net) -> x.edge(net, 0, 1, 0, 1, 0)),
        new OfNet(4, (x, net) -> x.change(net, 0, 0, 1, 0)),
        new OfNet(5, (x, net) -> x.drop(net, 0)),
        new OfNet(6, CutsetWorks::edges),
        new OfNet(7, (x, net) -> x.supply(net, 0, 1)),
        new OfNet(20, (x, net) -> x.price(net, 0, 1, 0)),
        new OfNet(26, CutsetWorks::holds),
        new OfNet(27, (x, net) -> x.meets(net, 0)),
        new OfNet(28, CutsetWorks::breaks),
        new OfNet(29, (x, net) -> x.parent(net, 1)),
        new OfNet(48, CutsetWorks::checksum)};

    static final OfNet[] OF_NETS = all();

    Calls() {
    }

    private static OfNet[] all() {
        OfNet[] all = new OfNet[ALONE.length + ENDS.length + OF_EDGES.length];
        int many = 0;
        for (OfNet call : ALONE) {
            all[many++] = call;
        }
        for (Ends call : ENDS) {
            all[many++] = new OfNet(call.promise(), (x, net) -> call.on(x, net, 0, 1));
        }
        for (OfEdge call : OF_EDGES) {
            all[many++] = new OfNet(call.promise(), (x, net) -> call.on(x, net, 0, 1, 0));
        }
        return all;
    }
}
