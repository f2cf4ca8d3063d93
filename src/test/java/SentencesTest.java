/** Every sentence of the document, one by one: its bounds, and what is refused at them. */
public final class SentencesTest {
    public static void main(String[] args) {
        Doc.read();
        TextSentences.all();
        FaultSentences.all();
        AskSentences.all();
        NightSentences.all();
        AheadSentences.all();
        SetSentences.all();
        MemberSentences.all();
        SeenSentences.all();
        UndoSentences.all();
        LastSentences.all();
        NoSuchSentences.all();
        Doc.noneLeftOut();
        Check.end("SentencesTest");
    }
}
