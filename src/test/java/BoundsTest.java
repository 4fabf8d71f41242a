import java.io.IOException;

/**
 * Each sentence of the terms and of the promises that names a boundary, at the boundary and a step to
 * each side of it. Each test says by check.sentence(..) which one it holds; words of the document that
 * no test has said are a failure.
 */
public final class BoundsTest {
    public static void main(String[] args) throws IOException {
        Document document = new Document();
        Check check = new Check(document);
        new ReportBounds(check).all();
        new TextBounds(check).all();
        new ChangeBounds(check).all();
        new FitBounds(check).all();
        new KernelBounds(check).all();
        new ReachBounds(check).all();
        new ToldBounds(check).all();
        check.close();
        for (String rest : document.unquoted()) {
            check.due("a test holds " + rest, false);
        }
        check.end("BoundsTest");
    }
}
