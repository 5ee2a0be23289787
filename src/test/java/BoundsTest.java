import java.io.IOException;

/**
 * Promises 1 to 39 and the terms, sentence by sentence: the last value that is taken and the first that
 * is not, empty and full, what wraps around, what is refused. Each letter of the document is named.
 */
public final class BoundsTest {
    public static void main(String[] args) throws IOException {
        Check c = new Check();
        Sentences s = new Sentences(c);
        new TermsBounds(c, s).all();
        new TextBounds(s).all();
        new ChangesBounds(s).all();
        new YearsBounds(s).all();
        new PlacesBounds(s).all();
        new SeenBounds(s).all();
        new SheetsBounds(s).all();
        s.finish();
        c.finish();
    }
}
