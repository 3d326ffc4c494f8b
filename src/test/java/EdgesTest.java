/** Every boundary case that the document names: each test says for which words of which promise it is. */
public final class EdgesTest {
    public static void main(String[] args) throws Exception {
        Edges e = new Edges();
        TermsEdges.all(e);
        CountyEdges.all(e);
        NightsEdges.all(e);
        BucketsEdges.all(e);
        ColoursEdges.all(e);
        AheadEdges.all(e);
        SundaysEdges.all(e);
        KeptEdges.all(e);
        e.finish();
    }
}
