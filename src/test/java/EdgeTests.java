import java.io.IOException;

/** Each sentence of the document that names a boundary case, with a test of its own. */
public final class EdgeTests {
    public static void main(String[] args) throws IOException {
        TextEdges.all();
        EventEdges.all();
        BeatEdges.all();
        PlanEdges.all();
        HeardEdges.all();
        ChanceEdges.all();
        SheetEdges.all();
        CountEdges.all();
        LaterEdges.all();
        Edge.wholeDocument();
        Due.end();
    }
}
