/** Boundary cases, sentence by sentence of the document: all promises. */
final class EdgesTest {
    public static void main(String[] args) {
        TextEdges.all();
        LandEdges.all();
        WarEdges.all();
        BestEdges.all();
        PagesEdges.all();
        KindsEdges.all();
        Edge.everyPromiseIsNamed();
        Due.end();
    }
}
