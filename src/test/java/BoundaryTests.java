/** The boundary cases that the document names, sentence by sentence. */
public final class BoundaryTests {
    public static void main(String[] args) throws java.io.IOException {
        BoundaryTerms.run();
        BoundaryEdits.run();
        BoundaryPlayersAndTexts.run();
        BoundaryThere.run();
        BoundaryOutlook.run();
        Doc.everySentenceIsNamed();
        Check.end();
    }
}
