import java.io.IOException;
import java.nio.file.Path;

/** Every sentence of the document, those of single promises in the promises' order, then those of many at once. Run from the project's own directory. */
public final class EdgesTest {
    public static void main(String[] args) throws IOException {
        Edges edges = new Edges(Path.of("../shared/DOC.md"));
        new EdgesOfBlocks(edges).all();
        new EdgesOfLayings(edges).all();
        new EdgesOfWishes(edges).all();
        new EdgesOfKept(edges).all();
        new EdgesOfSheets(edges).all();
        new EdgesOfImages(edges).all();
        new EdgesOfTerms(edges).all();
        edges.end();
    }
}
