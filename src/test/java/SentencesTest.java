import java.io.IOException;

/** Each sentence of the Terms and of promises 1 to 30, at the boundaries that it names. */
public final class SentencesTest {
    public static void main(String[] args) throws IOException {
        Words w = new Words();
        TermsSentences.all(w);
        ForestSentences.all(w);
        UndoSentences.all(w);
        EdgeSentences.all(w);
        WaySentences.all(w);
        RootSentences.all(w);
        TraySentences.all(w);
        ForgeSentences.all(w);
        w.finish();
    }
}
