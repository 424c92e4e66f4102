/** Every sentence of the document that names an edge, by promises: too small, too large, empty, full, round again, refused. */
public final class SentenceTest {
    public static void main(String[] args) {
        TextEdges.run();
        ReadingEdges.run();
        ActEdges.run();
        SearchEdges.run();
        HeardEdges.run();
        OddsEdges.run();
        RememberEdges.run();
        RefusedEdges.run();
        Sentence.close();
        Due.close("SentenceTest");
    }
}
