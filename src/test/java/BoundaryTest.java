/**
 * Every sentence of the document that names a boundary: calls up to it and beyond it, and behind each call that is
 * refused, calls that show that nothing has changed. The sentences are quoted, and all of the document is.
 */
public final class BoundaryTest {
    public static void main(String[] args) {
        TermsBounds.check();
        TextBounds.check();
        WrongLineBounds.check();
        ExpansionBounds.check();
        UpdateBounds.check();
        CommandBounds.check();
        ActionBounds.check();
        DraftBounds.check();
        LoadBounds.check();
        BuildBounds.check();
        AskBounds.check();
        Sentence.allAreNamed();
        Probe.finish();
    }
}
