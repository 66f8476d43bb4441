import java.io.IOException;
import java.nio.file.Files;
import java.nio.file.Path;
import java.util.Set;
import java.util.TreeSet;

/**
 * Checks at the edges that the document names: each names the promise (0: the Terms) and quotes the words
 * that it holds the class to, and the words must stand there.
 */
final class Edges {
    static final int TERMS = 0;

    private final Check check;
    private final String document;
    private final Set<Integer> named = new TreeSet<>();
    private String said = "";
    private int checksOfSaid = 1;

    Edges(String test) throws IOException {
        check = new Check(test);
        Path path = Path.of("../shared/DOC.md");
        document = Files.exists(path) ? plain(Files.readString(path)) : null;
    }

    private static String plain(String text) {
        return text.replaceAll("\\s+", " ");
    }

    /** All checks from here on are for these words of a promise. */
    void says(int promise, String words) {
        check.due(said + " has a check", 1, checksOfSaid > 0 ? 1 : 0);
        said = (promise == TERMS ? "Terms" : "Promise " + promise) + " \"" + words + "\"";
        checksOfSaid = 0;
        named.add(promise);
        if (document != null) {
            check.due(said + " stands in the document", 1, part(promise).contains(plain(words)) ? 1 : 0);
        }
    }

    private String part(int promise) {
        int from = document.indexOf(promise == TERMS ? "## Terms" : "## Promise " + promise + ":");
        int to = from < 0 ? -1 : document.indexOf(" ## ", from + 1);
        return to < 0 ? "" : document.substring(from, to);
    }

    void due(String call, long want, long got) {
        checksOfSaid++;
        check.due(said + ": " + call, want, got);
    }

    /** Ends the test; all promises from the first to the last one must have been named. */
    void end(int first, int last) {
        check.due(said + " has a check", 1, checksOfSaid > 0 ? 1 : 0);
        for (int promise = first; promise <= last; promise++) {
            check.due("promise " + promise + " is named", 1, named.contains(promise) ? 1 : 0);
        }
        check.end();
    }
}
