/** The document sentence by sentence: each one that names a boundary case, with what must hold at it. */
public final class EdgesTest {
    public static void main(String[] args) {
        Check check = new Check();
        Edges[] all = {new TapeEdges(check), new BayEdges(check), new LawEdges(check), new HourEdges(check),
            new CallEdges(check), new SoonEdges(check), new CouncilEdges(check), new HeapEdges(check),
            new StormEdges(check), new WholeEdges(check)};
        for (Edges edges : all) {
            edges.run();
        }
        check.allSaid();
        check.end("EdgesTest");
    }
}
