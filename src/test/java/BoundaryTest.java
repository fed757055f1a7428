import java.io.IOException;

/** Each sentence of the document has a test of its own: its limits, what is beyond them, refused calls. */
public final class BoundaryTest {
    private BoundaryTest() {
    }

    public static void main(String[] args) throws IOException {
        TermsSentences.run();
        MachineSentences.run();
        FeatureSentences.run();
        TextSentences.run();
        ClashSentences.run();
        PrioritySentences.run();
        WordSentences.run();
        SlotSentences.run();
        if (!Sentences.allHold()) {
            System.exit(1);
        }
    }
}
