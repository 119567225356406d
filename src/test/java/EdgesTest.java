/** Every sentence of the document by a test of its own: its edges, the empty and the full, what is refused. */
public final class EdgesTest {
    public static void main(String[] args) throws Exception {
        Sentences says = new Sentences();
        new UseEdges(says).all();
        new TermEdges(says).all();
        new TextEdges(says).all();
        new CallEdges(says).all();
        new BestEdges(says).all();
        new StickEdges(says).all();
        new SheetEdges(says).all();
        new RefusalEdges(says).all();
        says.finish();
    }
}
