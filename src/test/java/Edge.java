import java.io.IOException;
import java.nio.file.Files;
import java.nio.file.Path;
import java.util.Set;
import java.util.TreeSet;

/** Tests that belong to one sentence of the document: it is quoted ahead of them, and looked for where it should stand. */
final class Edge {
    private static final Path DOCUMENT = Path.of("../shared/DOC.md");
    private static final int TERMS = 0;

    private final String document;
    private final Due due = new Due();
    private final Set<Integer> met = new TreeSet<>();
    private String sentence = "";

    Edge() {
        document = readDocument();
    }

    /** Null where the document is not at hand: the answers are asked all the same. */
    private static String readDocument() {
        try {
            return Files.readString(DOCUMENT).replaceAll("\\s+", " ");
        } catch (IOException e) {
            System.out.println(DOCUMENT + " is not here: quotes are not looked for");
            return null;
        }
    }

    void whatItIs(String quote) {
        open("What it is", "## What it is", "## The public face", quote);
    }

    void terms(String quote) {
        met.add(TERMS);
        open("Terms", "## Terms", "## Promise 1:", quote);
    }

    void promise(int number, String quote) {
        String behind = number == 39 ? "## Not promised" : "## Promise " + (number + 1) + ":";
        met.add(number);
        open("Promise " + number, "## Promise " + number + ":", behind, quote);
    }

    private void open(String name, String from, String to, String quote) {
        sentence = name + ": " + quote;
        if (document != null) {
            String section = document.substring(document.indexOf(from), document.indexOf(to));
            due.holds(sentence + ": stands in the document", section.contains(quote));
        }
    }

    void is(String call, long got, long want) {
        due.is(sentence + ": " + call, got, want);
    }

    void holds(String claim, boolean so) {
        due.holds(sentence + ": " + claim, so);
    }

    /** That each promise of these has a sentence that was tested. */
    void finish(int first, int last) {
        for (int number = first; number <= last; number++) {
            due.holds("promise " + number + " has a test", met.contains(number));
        }
        due.finish();
    }
}
