import java.io.IOException;

/** Every sentence of the document has a test here, with the boundary cases that it names. */
public final class BoundariesTest {
    private BoundariesTest() {
    }

    public static void main(String[] args) throws IOException {
        Sentences s = new Sentences();
        new ChangeBoundaries(s).test();
        new TreeBoundaries(s).test();
        new QueryBoundaries(s).test();
        new FilterBoundaries(s).test();
        new CursorBoundaries(s).test();
        new ExceptionBoundaries(s).test();
        s.end();
    }
}
