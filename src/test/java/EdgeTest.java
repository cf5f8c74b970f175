/** Promises 1 to 42 at their boundary cases, sentence by sentence of the document. */
public final class EdgeTest {
    public static void main(String[] args) {
        Edges e = new Edges();
        new TermEdges(e).run();
        new TextEdges(e).run();
        new StandEdges(e).run();
        new NightEdges(e).run();
        new BestEdges(e).run();
        new SeenEdges(e).run();
        new ImageEdges(e).run();
        new UnchangedEdges(e).run();
        e.finish("EdgeTest");
    }
}
