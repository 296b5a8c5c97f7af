import java.nio.file.Path;

/** Each sentence of the document's terms and promises, in its own words, with the answers that it asks for. */
public final class EdgesTest {
    public static void main(String[] args) throws Exception {
        Check check = new Check();
        Doc doc = new Doc(Path.of("../shared/DOC.md"));
        check.due("terms and promises", doc.howMany(), 36);
        Edges[] parts = {new TapeEdges(check, doc), new ToldEdges(check, doc), new TextEdges(check, doc), new DayEdges(check, doc),
            new BestEdges(check, doc), new SightEdges(check, doc), new PlanEdges(check, doc), new OtherEdges(check, doc)};
        for (Edges part : parts) {
            part.run();
        }
        for (String words : doc.unquoted()) {
            check.due("no test has the words, " + words, 0, 1);
        }
        check.end("EdgesTest");
    }
}
