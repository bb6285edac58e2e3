/**
 * Each sentence of the document that names a boundary case, at the edge and on both sides of it. With an argument it
 * prints what of the document no test here has named.
 */
public final class EdgesTest {
    public static void main(String[] args) {
        DayEdges.all();
        WordEdges.all();
        PhraseEdges.all();
        EventEdges.all();
        OrderEdges.all();
        ChangeEdges.all();
        Edge.eachPromiseHasOne();
        if (args.length > 0) {
            Edge.printRest();
        }
        Due.finish();
    }
}
