import java.io.IOException;

/** The whole document, from its first line to its last. */
public final class WalkTest {
    private WalkTest() {
    }

    public static void main(String[] args) throws IOException {
        Walk.begin();
        WalkOfFace.test();
        WalkOfTerms.test();
        WalkOfCalls.test();
        WalkOfVotes.test();
        WalkOfYears.test();
        WalkOfShelves.test();
        Walk.end();
    }
}
