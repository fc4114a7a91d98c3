/**
 * Each sentence of the document that names a boundary, by runs of calls on both sides of it: the runs are in the
 * classes whose names end in "Bounds". No sentence of the document may be without a run, but for those told here.
 */
public final class BoundaryTest {
    public static void main(String[] args) {
        TermBounds.all();
        MethodBounds.all();
        TouchBounds.all();
        BellBounds.all();
        RotaBounds.all();
        RingingBounds.all();
        int untold = 0;
        for (String sentence : Bounds.document().untoldSentences()) {
            System.out.println("BoundaryTest: no run is of " + sentence);
            untold++;
        }
        System.out.println("BoundaryTest: " + Run.rightAnswers() + " answers as due, " + Run.wrongAnswers() + " not");
        if (Run.wrongAnswers() != 0 || Run.rightAnswers() == 0 || untold != 0) {
            System.exit(1);
        }
    }
}
