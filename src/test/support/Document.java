import java.io.IOException;
import java.nio.file.Files;
import java.nio.file.Path;

/**
 * The document, read from its first line on: each sentence that a test holds must be the next one in it, so that
 * none is left out. Left aside are headings, the public face (LanguageTest holds it) and what is not promised.
 */
final class Document {
    private static final Path PLACE = Path.of("../shared/DOC.md");

    /** Null where there is no document beside the project: then the sentences are held without it. */
    private final String text;
    private int at = 0;

    Document() throws IOException {
        text = Files.isReadable(PLACE) ? plain(Files.readString(PLACE)) : null;
        if (text == null) {
            System.out.println("no " + PLACE + ": whether a sentence is left out is not looked at");
        }
    }

    private static String plain(String whole) {
        int from = whole.indexOf("## What it is");
        int to = whole.indexOf("## Not promised");
        String promised = from < 0 || to < from ? whole : whole.substring(from, to);
        return promised.replaceAll("(?s)```java.*?```", " ").replaceAll("(?m)^(```|#).*$", " ")
                .replaceAll("======== \\d", " ").replaceAll("\\s+", " ");
    }

    /** The sentence is the next one; between two there are only signs. */
    void reads(int promise, String sentence) {
        if (text == null) {
            return;
        }
        skipSigns();
        if (text.startsWith(sentence, at)) {
            at += sentence.length();
        } else {
            Edge.holds(promise, "the next sentence of the document is \"" + sentence + "\", not \"" + rest() + "\"",
                    false);
        }
    }

    void ends() {
        if (text != null) {
            skipSigns();
            Edge.holds(32, "the document ends behind the last sentence, and not with \"" + rest() + "\"",
                    at == text.length());
        }
    }

    private void skipSigns() {
        while (at < text.length() && " ,;:.".indexOf(text.charAt(at)) >= 0) {
            at++;
        }
    }

    private String rest() {
        return text.substring(at, Math.min(text.length(), at + 60));
    }
}
