import java.io.IOException;
import java.nio.file.Files;
import java.nio.file.Path;
import java.util.List;

/**
 * The document, sentence by sentence: runs all groups of tests, and then compares what they quote
 * with the document itself. Each word of its Terms and Promises must be quoted by a test.
 */
public final class SentencesTest {
    private static final Check CHECK = new Check("SentencesTest");

    public static void main(String[] args) throws IOException {
        List<Sentences> groups = List.of(new TextSentences(CHECK), new ClassSentences(CHECK),
                new PlanSentences(CHECK), new HandSentences(CHECK), new RoundSentences(CHECK));
        for (Sentences group : groups) {
            group.hold();
        }
        Path path = Path.of(System.getProperty("wakesaver.document", "../shared/DOC.md"));
        if (Files.isReadable(path)) {
            compare(groups, new Document(path));
        } else {
            System.out.println("SentencesTest: no document at " + path + ", quotes are not compared with it");
        }
        CHECK.finish();
    }

    private static void compare(List<Sentences> groups, Document document) {
        CHECK.same("parts of the document", document.size(), 1 + 5 + 1 + 23);
        for (Sentences group : groups) {
            for (Sentences.Quote quote : group.quotes()) {
                boolean stands = document.quote(quote.part(), quote.words());
                CHECK.yes(quote.part() + " says \"" + quote.words() + "\"", stands);
            }
        }
        for (String part : document.parts()) {
            String left = document.unquoted(part);
            CHECK.yes(part + ": no test quotes \"" + left + "\"", left.isEmpty());
        }
    }
}
