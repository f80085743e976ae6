import java.util.HashSet;
import java.util.Set;

/** The sentences of the document that name an edge: each is named once, by the one test that stands for it. */
final class Edges {
    final Check check;
    private final Document document;
    private final Set<String> named = new HashSet<>();

    Edges(Check check, Document document) {
        this.check = check;
        this.document = document;
    }

    /** Runs the test of these words in that section. */
    void edge(String section, String words, Runnable test) {
        String sentence = section + " | " + words;
        check.about(sentence);
        check.due("the document says so", document.says(section, words), true);
        check.due("named for the first time", named.add(sentence), true);
        int before = check.asked();
        try {
            test.run();
        } catch (RuntimeException e) {
            check.due("it goes on without", e, "an exception");
        }
        check.due("something was asked", check.asked() > before, true);
        check.about("");
    }

    int count() {
        return named.size();
    }

    /** Whether each promise has a test, and each of its Throws rows one of its own. */
    void allPromisesNamed() {
        for (String promise : document.promises()) {
            boolean isNamed = named.stream().anyMatch(sentence -> sentence.startsWith(promise + " | "));
            check.due(promise + " has a test", isNamed, true);
            for (String row : document.throwsRows(promise)) {
                check.due(promise + ", '" + row + "' has a test", named.contains(promise + " | " + row), true);
            }
        }
    }
}
