/** Each sentence of the document that names a boundary case, by a run of its own; and no sentence is left without one. */
public final class BoundaryTest {
    public static void main(String[] args) {
        TextBoundaries.holdAll();
        MonthBoundaries.holdAll();
        ChanceBoundaries.holdAll();
        SheetBoundaries.holdAll();
        Script.dueAllHeld();
        Check.end("BoundaryTest");
    }
}
