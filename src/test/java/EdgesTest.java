/** Each sentence of the document that names an edge has a test of its own, by the promise that it belongs to. */
public final class EdgesTest {
    private EdgesTest() {
    }

    public static void main(String[] args) {
        TextEdges.tryAll();
        DayEdges.tryAll();
        PlanEdges.tryAll();
        ToldEdges.tryAll();
        LastEdges.tryAll();
        Edges.everyPromiseIsNamed();
        Bench.end();
    }
}
