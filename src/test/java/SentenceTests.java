import java.lang.reflect.Method;
import java.nio.file.Path;
import java.util.Arrays;

/** No words of the document's terms and promises are without a test that quotes them. */
public final class SentenceTests {
    private static final Class<?>[] TESTS = {
        TermsBoundaryTests.class, OperationBoundaryTests.class, PromiseBoundaryTests.class, RefusalBoundaryTests.class,
    };
    private static final int PROMISES = 16;
    /** Words between the quotes that ask for nothing by themselves. */
    private static final String[] JOINING = {"SHAPES of an area are", "; else", "or"};

    public static void main(String[] args) throws Exception {
        Check check = new Check("SentenceTests");
        Document document = new Document(Path.of(args[1]));
        check.yes("Terms are in the document", !document.text(document.nameOf("Terms")).isEmpty());
        check.text("words of Terms without a test", unquoted(document, "Terms"), "");
        for (int promise = 1; promise <= PROMISES; promise++) {
            String name = "Promise " + promise;
            check.yes(name + " is in the document", !document.text(document.nameOf(name)).isEmpty());
            check.text("words of " + name + " without a test", unquoted(document, name), "");
        }
        check.text("no promise behind the last one", document.nameOf("Promise " + (PROMISES + 1)), "");
        check.end();
    }

    private static String unquoted(Document document, String section) {
        String text = document.text(document.nameOf(section));
        char[] left = text.toCharArray();
        for (Class<?> tests : TESTS) {
            for (Method test : Boundaries.tests(tests)) {
                Sentence sentence = test.getAnnotation(Sentence.class);
                if (sentence.of().equals(section)) {
                    strike(text, sentence.words(), left);
                }
            }
        }
        String rest = new String(left);
        for (String words : JOINING) {
            rest = rest.replaceAll("(?<![A-Za-z])" + words + "(?![A-Za-z])", "");
        }
        return rest.replaceAll("[^A-Za-z0-9]+", " ").trim();
    }

    private static void strike(String text, String words, char[] left) {
        for (int at = text.indexOf(words); at >= 0; at = text.indexOf(words, at + 1)) {
            Arrays.fill(left, at, at + words.length(), '|');
        }
    }
}
