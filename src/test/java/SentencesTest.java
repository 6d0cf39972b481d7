/** Every sentence of the document, with the cases that it names. */
public final class SentencesTest {
    public static void main(String[] arguments) {
        BeltSentences.check();
        MovingSentences.check();
        TextSentences.check();
        ChangeSentences.check();
        ViewSentences.check();
        Sentences.everySentenceHasATest();
        Script.finish();
    }
}
