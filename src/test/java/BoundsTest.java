/** For each sentence of the document that names a boundary: a test that fails if that sentence is broken. */
public final class BoundsTest {
    private BoundsTest() {
    }

    public static void main(String[] args) {
        BoundsOfNets.test();
        BoundsOfEnds.test();
        BoundsOfFlows.test();
        BoundsOfCosts.test();
        BoundsOfWays.test();
        BoundsOfDemands.test();
        BoundsOfOthers.test();
        BoundsOfAll.test();
        Bounds.finish();
    }
}
