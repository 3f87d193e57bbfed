/** Each sentence of the document that names an edge, by a test that names the sentence; none goes unquoted. */
public final class EdgesTest {
    public static void main(String[] args) {
        Checks checks = new Checks();
        Document document = Document.read();
        Edges[] all = {
            new EdgesOfWoods(checks, document),
            new EdgesOfWays(checks, document),
            new EdgesOfLayers(checks, document),
            new EdgesOfOdds(checks, document),
            new EdgesOfTwigsBeamsSlots(checks, document),
        };
        for (Edges edges : all) {
            edges.run();
        }
        for (String words : document.unquoted()) {
            checks.due("no test quotes \"" + words + "\"", 0, 1);
        }
        System.out.println(document.sections() + " sections of the document quoted");
        checks.end();
    }
}
