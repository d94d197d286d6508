/**
 * The document sentence by sentence: each has a case of its own, with the edges that it names (too small, too large,
 * empty, full, a wrap-around, a refused call).
 */
public final class BoundaryTest {
    private BoundaryTest() {
    }

    public static void main(String[] args) throws Exception {
        Document.open();
        TapeBounds.tryAll();
        TextBounds.tryAll();
        HillBounds.tryAll();
        SurveyBounds.tryAll();
        PlanBounds.tryAll();
        YearBounds.tryAll();
        LogBounds.tryAll();
        TalkBounds.tryAll();
        Document.close();
        Check.close("BoundaryTest");
    }
}
