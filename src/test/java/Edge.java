import java.io.IOException;
import java.nio.file.Files;
import java.nio.file.Path;
import java.util.function.Consumer;
import java.util.regex.Matcher;
import java.util.regex.Pattern;

/**
 * Tests that are named by the sentence of the document that each is for. A name that is no
 * sentence of DOC.md is a fault, and so is a word of its terms and promises that is in no name.
 */
final class Edge {
    private static final Path DOCUMENT = Path.of("../shared/DOC.md");

    private final Due due = new Due("EdgesTest");
    private final String document;
    private final boolean[] named;
    private String sentence = "";

    Edge() throws IOException {
        document = promised(Files.readString(DOCUMENT));
        named = new boolean[document.length()];
    }

    /** Terms and promises alone, on one line: no headings, no heads of calls. */
    private static String promised(String whole) {
        return whole.substring(whole.indexOf("## Terms"), whole.indexOf("## Not promised"))
                .replaceAll("(?m)^(#|```|Ahead of the calls).*$", "")
                .replaceAll("(?m)^`[^`]*`: ", "")
                .replaceAll("======== \\d", "")
                .replaceAll("\\s+", " ");
    }

    /** A test of that sentence. */
    void of(String itsSentence, Consumer<Edge> test) {
        sentence = itsSentence;
        int place = document.indexOf(sentence);
        holds("is a sentence of the document", place >= 0);
        for (; place >= 0; place = document.indexOf(sentence, place + 1)) {
            for (int i = 0; i < sentence.length(); i++) {
                named[place + i] = true;
            }
        }
        int before = due.calls();
        test.accept(this);
        holds("is tested", due.calls() > before);
    }

    void is(String call, int got, int want) {
        due.is("\"" + sentence + "\": " + call, got, want);
    }

    void holds(String what, boolean so) {
        due.holds("\"" + sentence + "\": " + what, so);
    }

    /** A new object, and what is done with it. */
    Run made(String... calls) {
        return new Run(this).does(calls);
    }

    /** A new object whose TEXT that is. */
    Run told(String text) {
        return made().tell(text);
    }

    /** A new object on which that TEXT is LAID, and what is done then. */
    Run laid(String text, String... calls) {
        return told(text).does("lay()").does(calls);
    }

    void end() {
        sentence = "all of them";
        Matcher word = Pattern.compile("[A-Za-z0-9]+").matcher(document);
        while (word.find()) {
            if (!named[word.start()]) {
                holds("tests no '" + word.group() + "' of '.. "
                        + document.substring(word.start(), Math.min(document.length(), word.start() + 40)) + " ..'", false);
            }
        }
        due.end();
    }
}
