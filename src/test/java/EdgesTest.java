import java.io.IOException;

/** Each sentence of the document that names an edge has a test of its own here, under its own words. */
public final class EdgesTest {
    public static void main(String[] args) throws IOException {
        Sentences s = new Sentences("EdgesTest");
        TermEdges.all(s);
        TextEdges.all(s);
        NameEdges.all(s);
        RuleEdges.all(s);
        KeepEdges.all(s);
        PromiseEdges.all(s);
        s.end();
    }
}
