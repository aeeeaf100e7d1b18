import java.io.IOException;

/** Every sentence of the document, with the edges that it names. The second argument is where the document is. */
public final class EdgesTest {
    public static void main(String[] args) throws IOException {
        Sentences s = new Sentences(args.length > 1 ? args[1] : "../shared/DOC.md");
        new TextEdges(s).run();
        new TokenEdges(s).run();
        new LawEdges(s).run();
        new AskEdges(s).run();
        new CallEdges(s).run();
        s.end("EdgesTest");
    }
}
