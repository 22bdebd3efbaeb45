import java.lang.reflect.Method;

/**
 * Boundary cases, a test of its own for each sentence (or part of one) of the document. Where the
 * document is at hand, the words of each test must stand there, and no words may be without a test.
 */
public final class BoundaryTest {
    private static final Class<?>[] TESTS = {
        BoundaryOfTerms.class, BoundaryOfActs.class, BoundaryOfAnswers.class};

    private BoundaryTest() {
    }

    public static void main(String[] args) throws Exception {
        Document document = Document.isThere() ? new Document() : null;
        for (Class<?> tests : TESTS) {
            for (Method test : tests.getDeclaredMethods()) {
                Sentence sentence = test.getAnnotation(Sentence.class);
                if (sentence != null) {
                    run(test, sentence, document);
                }
            }
        }
        Due.within("");
        if (document != null) {
            document.tellTheRest();
        } else {
            System.out.println("no document is at hand: its words are not looked up");
        }
        Due.end();
    }

    private static void run(Method test, Sentence sentence, Document document) throws Exception {
        Due.within(sentence.in() + ", \"" + sentence.says() + "\": ");
        int before = Due.calls();
        test.invoke(null);
        Due.is(test.getName() + " asks something", Due.calls() > before, true);
        if (document != null) {
            Due.is("these words stand there", document.marks(sentence.in(), sentence.says()), true);
        }
    }
}
