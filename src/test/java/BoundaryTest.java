import java.io.IOException;

/** Every sentence of the document that names a boundary, each in a test that says its promise and its words. */
public final class BoundaryTest {
    public static void main(String[] args) throws IOException {
        Held held = new Held();
        new RefusalBounds(held).test();
        new TextBounds(held).test();
        new RingBounds(held).test();
        new TriedBounds(held).test();
        new BookBounds(held).test();
        held.end();
    }
}
