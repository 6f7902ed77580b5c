/** Runs the tests that quote the document, and then asks whether it has words that none of them quoted. */
public final class DocumentTest {
    public static void main(String[] args) {
        SetEdgesTest.main(args);
        LookEdgesTest.main(args);
        TextEdgesTest.main(args);
        ErrorEdgesTest.main(args);
        PanelEdgesTest.main(args);
        TrackEdgesTest.main(args);
        CallSentencesTest.main(args);
        FrameSentencesTest.main(args);
        Checks.about("The document");
        for (String words : Document.unquoted()) Checks.due("tests of \"" + words + "\"", 0, 1);
        Checks.holds("sections for the promises and the steps", Document.sections() >= 23 + 8);
        Checks.end();
    }
}
