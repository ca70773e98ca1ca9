import java.nio.file.Path;

/** Each sentence of the document that names a boundary case, with a test of its own. */
public final class EdgesTest {
    public static void main(String[] args) throws Exception {
        EdgesOfTerms.test();
        EdgesOfAsking.test();
        EdgesOfCalls.test();
        Sentences.compareWith(Path.of(args[1]));
        Due.finish("EdgesTest");
    }
}
