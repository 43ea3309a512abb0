import java.io.IOException;

/** Each sentence of the document that names an edge, by itself; and that there is none without a test. */
public final class EdgesTest {
    public static void main(String[] args) throws IOException {
        Quotes quotes = new Quotes();
        Edges[] parts = {new TongueEdges(quotes), new LineEdges(quotes), new SureEdges(quotes), new TalkEdges(quotes),
            new RowEdges(quotes)};
        int answers = 0;
        int wrong = 0;
        for (Edges part : parts) {
            part.all();
            answers += part.answers();
            wrong += part.wrong();
        }
        wrong += quotes.end();
        System.out.println("edges: " + answers + " answers, " + wrong + " not as due");
        if (wrong != 0) {
            System.exit(1);
        }
    }
}
