import java.io.IOException;

/** Each sentence of the document, promise by promise, with the edges that it names. */
public final class EdgesTest {
    public static void main(String[] args) throws IOException {
        Edges.readDocument();
        EdgesOfTerms.all();
        EdgesOfRows.all();
        EdgesOfTexts.all();
        EdgesOfPins.all();
        EdgesOfDeeds.all();
        EdgesOfDay.all();
        EdgesOfWhose.all();
        EdgesOfChances.all();
        EdgesOfTold.all();
        Edges.endSentences();
        Check.end();
    }
}
