/** Each sentence of the document that names a boundary case, by a test of its own that tells which sentence it is. */
public final class BoundaryTest {
    public static void main(String[] args) {
        TapeBoundaries.test();
        TextBoundaries.test();
        ActBoundaries.test();
        PictureBoundaries.test();
        WayBoundaries.test();
        SightBoundaries.test();
        Sentence.allNamed();
        Check.end("BoundaryTest");
    }
}
