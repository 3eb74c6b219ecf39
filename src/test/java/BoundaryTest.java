/** Each sentence of the document that names a boundary, tried on both sides of it; what is refused changes nothing. */
public final class BoundaryTest {
    private BoundaryTest() {
    }

    public static void main(String[] args) {
        RefusalBoundaries.run();
        TextBoundaries.run();
        FaceBoundaries.run();
        ClimbBoundaries.run();
        DayBoundaries.run();
        PlanBoundaries.run();
        DustBoundaries.run();
        SheetBoundaries.run();
        if (!Bench.ends()) {
            System.exit(1);
        }
    }
}
