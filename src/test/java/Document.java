import java.io.IOException;
import java.nio.file.Files;
import java.nio.file.Path;

/** The document, gone through from its first line: no words of it can be left out unseen. */
final class Document {
    private final Check check;
    private final String text;
    private String heading = "";
    private int at = 0;

    Document(Check check) throws IOException {
        this.check = check;
        this.text = Files.readString(Path.of("..", "shared", "DOC.md")).replaceAll("\\s+", " ").trim();
    }

    /** The next words are a heading, with the call below it if it is a promise. */
    void heading(String words) {
        heading = words;
        pass(words);
    }

    /** The next words are a sentence; what follows in the test would fail if it were broken. */
    void sentence(String words) {
        pass(words);
        check.sentence(heading, words);
    }

    /** The next words tell of no call what it answers or changes. */
    void pass(String words) {
        check.sentence("DOC.md", "under '" + heading + "'");
        String next = text.substring(at, Math.min(text.length(), at + words.length()));
        check.due("the words that come next", next, words);
        at = Math.min(text.length(), at + words.length());
        skipBlanks();
    }

    /** The next words stand between two marks, which are passed too. */
    String between(String open, String close) {
        pass(open);
        int end = Math.max(at, text.indexOf(close, at));
        String words = text.substring(at, end).trim();
        at = end;
        pass(close);
        return words;
    }

    void end() {
        check.sentence("DOC.md", "its end");
        check.due("what is left", text.substring(at), "");
    }

    private void skipBlanks() {
        while (at < text.length() && text.charAt(at) == ' ') {
            at++;
        }
    }
}
