import java.io.IOException;

/** A test for each sentence of the terms and of the promises 1 to 38; none may be left without one. */
public final class SentencesTest {
    public static void main(String[] args) throws IOException {
        Sentences s = new Sentences();
        ClockTerms.tell(s);
        TickTerms.tell(s);
        GroupTerms.tell(s);
        StateTerms.tell(s);
        ClockSentences.tell(s);
        LinkSentences.tell(s);
        TickSentences.tell(s);
        ThoughtSentences.tell(s);
        TextSentences.tell(s);
        s.end();
        Check.end();
    }
}
