/** Sentence by sentence: what the document says, with the number of the promise. */
public final class SentencesTest {
    public static void main(String[] args) {
        TextSentences.all();
        DeedSentences.all();
        PoseSentences.all();
        WorkSentences.all();
        GuessSentences.all();
        RowSentences.all();
        Sentences.close();
    }
}
