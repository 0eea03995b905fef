/**
 * Each sentence of the document that names a bound has a test of its own: the last value that is good and
 * the first that is not, the empty and the full case, the wrap-around, each refusal and that it changes
 * nothing. At the end, no word of the terms and the promises is left that no such test quotes.
 */
final class EdgesTest {
    public static void main(String[] args) {
        ThingEdges.all();
        LawEdges.all();
        RunEdges.all();
        WhenEdges.all();
        PinkEdges.all();
        DeedEdges.all();
        ShelfEdges.all();
        ActEdges.all();
        Doc.allSaid();
        Due.end();
    }
}
