/** Each sentence of the document that names an edge, quoted, with answers that are due by it; all of it is quoted. */
final class EdgeTest {
    private EdgeTest() {
    }

    public static void main(String[] args) {
        Said said = new Said();
        new TermEdges(said).all();
        new FieldEdges(said).all();
        new MinuteEdges(said).all();
        new StoneEdges(said).all();
        new SeenEdges(said).all();
        new SheetEdges(said).all();
        said.end();
    }
}
