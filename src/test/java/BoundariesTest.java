import java.io.IOException;

/**
 * The boundary cases, sentence by sentence of the document: just inside a limit and
 * just outside it, the empty one and the full one, what wraps, each refusal and each
 * FINDING of each call, and of two that meet the one that the call tells first.
 */
public final class BoundariesTest {
    public static void main(String[] args) throws IOException {
        Sentences doc = new Sentences();
        TermsCases.all(doc);
        RowsCases.all(doc);
        NumbersCases.all(doc);
        StreamsCases.all(doc);
        PiecesCases.all(doc);
        HousesCases.all(doc);
        DeltasCases.all(doc);
        ToldCases.all(doc);
        doc.haveAllBeenQuoted();
        Check.finish();
    }
}
