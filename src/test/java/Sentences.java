import java.io.IOException;
import java.nio.charset.StandardCharsets;
import java.nio.file.Files;
import java.nio.file.Paths;

/**
 * The sentences of the document, each with the answers that are due by it. A test quotes its sentence; a quote that
 * does not stand in the document is a failure, and so is a word of the document that no test quotes.
 */
final class Sentences {
    private final Check check = new Check();
    private final String doc;
    private final boolean[] quoted;
    private int from;
    private int to;
    private String sentence = "";

    Sentences(String path) throws IOException {
        String whole = new String(Files.readAllBytes(Paths.get(path)), StandardCharsets.UTF_8);
        doc = plain(whole.substring(whole.indexOf("## Terms")));
        quoted = new boolean[doc.length()];
    }

    /** Without what is no sentence: signatures, which LanguageTest holds, fences and strokes. */
    private static String plain(String s) {
        return s.replaceAll("`(int|boolean|WishBridges)[^`]*`", "").replaceAll("```(text)?", "")
                .replaceAll("==== [IV]+\\.", "").replaceAll("\\s+", " ");
    }

    /** What is quoted from here on stands between these two. */
    void part(String first, String behind) {
        from = doc.indexOf(first);
        to = doc.indexOf(behind);
        if (from < 0 || to < from) {
            throw new IllegalStateException("no part from " + first + " to " + behind);
        }
    }

    void promise(int n, String name) {
        String heading = "## Promise " + n + ": " + name + " ";
        part(heading, n < 47 ? "## Promise " + (n + 1) + ":" : "## Not promised");
        mark(from, heading.length());
    }

    /** A sentence of the part, or several that one test holds; all places where it stands there count. */
    void of(String quote) {
        sentence = quote;
        int at = doc.indexOf(quote, from);
        check.due("stands in the document: " + quote, at >= 0 && at + quote.length() <= to, true);
        for (; at >= 0 && at + quote.length() <= to; at = doc.indexOf(quote, at + 1)) {
            mark(at, quote.length());
        }
    }

    private void mark(int at, int length) {
        for (int i = at; i < at + length; i++) {
            quoted[i] = true;
        }
    }

    void due(String call, long got, long want) {
        check.due("[" + sentence + "] " + call, got, want);
    }

    void yes(String call, boolean got) {
        check.due("[" + sentence + "] " + call, got, true);
    }

    void no(String call, boolean got) {
        check.due("[" + sentence + "] " + call, got, false);
    }

    /** The FAULT stands where the text has a # (which goes); without one there is none. */
    void text(String marked, int fault) {
        String text = marked.replace("#", "");
        WishBridges x = new WishBridges();
        due("read() of " + text, Check.read(x, text), fault);
        due("place() of " + text, x.place(), marked.indexOf('#'));
    }

    /** All words from the Terms to the last promise are quoted. */
    void end(String name) {
        int last = doc.indexOf("## Not promised");
        StringBuilder left = new StringBuilder();
        for (int i = doc.indexOf("## Terms") + 8; i < last; i++) {
            boolean bare = !quoted[i] && doc.charAt(i) > ' ' && ".,;:".indexOf(doc.charAt(i)) < 0;
            if (bare) {
                left.append(doc.charAt(i));
            } else if (left.length() > 0 && left.charAt(left.length() - 1) != ' ') {
                left.append(' ');
            }
        }
        check.due("words that no test quotes: " + left, left.length(), 0);
        check.end(name);
    }
}
