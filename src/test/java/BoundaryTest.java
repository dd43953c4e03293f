import java.io.IOException;

/** Each sentence of the document that names a boundary case: too small, too large, empty, full, wrapped, refused. */
public final class BoundaryTest {
    public static void main(String[] args) throws IOException {
        Sentences s = new Sentences("BoundaryTest");
        new TermsCases(s).all();
        new RowCases(s).all();
        new ScreenCases(s).all();
        new DeedCases(s).all();
        new SightCases(s).all();
        new ChanceCases(s).all();
        new ToldCases(s).all();
        s.end();
    }
}
