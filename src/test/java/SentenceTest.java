import java.io.IOException;

/** Each sentence of the document that names a bound, an edge or a refusal, with a test of its own. */
public final class SentenceTest {
    private SentenceTest() {
    }

    public static void main(String[] args) throws IOException {
        Doc.read();
        TextSentences.all();
        SettleSentences.all();
        ActSentences.all();
        WouldBeSentences.all();
        DrawSentences.all();
        TapePromises.all();
        HoldPromises.all();
        ActPromises.all();
        WouldBePromises.all();
        Doc.allSaid();
        Check.finish("SentenceTest");
    }
}
