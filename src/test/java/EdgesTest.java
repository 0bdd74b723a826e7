import java.io.IOException;

/** Each sentence of the document that names an edge, with tests of its own; none may be left out. */
public final class EdgesTest {
    private EdgesTest() {
    }

    public static void main(String[] args) throws IOException {
        Edges.readDocument();
        EdgesOfPeople.test();
        EdgesOfLaw.test();
        EdgesOfVotes.test();
        EdgesOfYears.test();
        EdgesOfActs.test();
        Edges.end();
    }
}
