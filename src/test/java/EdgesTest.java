import java.io.IOException;

/** For each sentence of the document that names an edge one test of its own. */
public final class EdgesTest {
    public static void main(String[] args) throws IOException {
        Check check = new Check();
        Edges edges = new Edges(check, new Document());
        new CombEdges(edges).run();
        new BarrelEdges(edges).run();
        new PlayingEdges(edges).run();
        new AskingEdges(edges).run();
        new WouldBeEdges(edges).run();
        new RefusalEdges(edges).run();
        edges.allPromisesNamed();
        System.out.println("  " + edges.count() + " sentences");
        check.end();
    }
}
