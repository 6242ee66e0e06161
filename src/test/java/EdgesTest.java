/** Every sentence of the document's Terms and promises has a test that cites it. */
public final class EdgesTest {
    public static void main(String[] args) {
        Due due = new Due();
        Document document = new Document();
        Edges[] groups = {new CoinEdges(due, document), new RuleEdges(due, document), new TextEdges(due, document),
            new DayEdges(due, document), new BestEdges(due, document), new ToldEdges(due, document),
            new HostEdges(due, document), new RefusalEdges(due, document)};
        for (Edges group : groups) {
            group.all();
        }
        for (String words : document.uncited()) {
            due.holds("no test cites " + words, false);
        }
        due.end();
    }
}
