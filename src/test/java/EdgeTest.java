import java.io.IOException;

/** All promises: each sentence of the document that names an edge, by a test that quotes it. */
public final class EdgeTest {
    public static void main(String[] args) throws IOException {
        Edge.runAll(EdgeTexts.class, EdgeSteps.class, EdgeAsks.class, EdgeStorms.class, EdgeKeeps.class);
    }
}
