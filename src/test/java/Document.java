import java.io.IOException;
import java.nio.file.Files;
import java.nio.file.Path;

/**
 * The document, gone through from one heading up to another: the tests quote it piece by piece, in its order.
 * Words that are left out, or that the document does not have there, are wrong.
 */
final class Document {
    private static final Path FILE = Path.of("../shared/DOC.md");
    private static final int SHOWN = 80;

    private final String text;
    private int at = 0;
    private String promise = "";
    private String last = "";

    private Document(String text) {
        this.text = text;
    }

    static Document between(String first, String behind) throws IOException {
        if (!Files.exists(FILE)) {
            System.out.println(FILE + " is not here: the runs are made, but the quotes are not held against it");
            return new Document(null);
        }
        String all = plain(Files.readString(FILE));
        int from = all.indexOf(first);
        int to = behind.isEmpty() ? all.length() : all.indexOf(behind);
        if (from < 0 || to < from) {
            throw new IllegalStateException("the document has no " + first + " ahead of " + behind);
        }
        return new Document(all.substring(from, to).trim());
    }

    /** The heading of a promise and the call that it promises: many promises have some words alike, so the titles of runs begin with it. */
    void promise(String heading, String call) {
        promise = heading + ": ";
        pass("## " + heading + " `" + call + "`:");
    }

    /** The document's words that come next, and a new run that would fail if they were broken. */
    Calls says(String words) {
        last = promise + words;
        Calls calls = Calls.onNew(last);
        goOn(words, calls);
        return calls;
    }

    /** One more run for the words that were quoted last. */
    Calls saysSo() {
        return Calls.onNew(last);
    }

    /** Words that come next, and that no answer of a call could break. */
    void pass(String words) {
        goOn(words, Calls.onNew(words));
    }

    /** All words up to these, which another test holds. */
    void passUpTo(String words) {
        if (text != null) {
            int next = text.indexOf(words, at);
            at = next < 0 ? at : next;
        }
    }

    void end() {
        if (text != null && !text.substring(at).isBlank()) {
            Calls.onNew("the end").isWrong("the document goes on with: " + shown(at));
        }
    }

    private void goOn(String words, Calls calls) {
        if (text == null) {
            return;
        }
        String next = plain(words);
        int from = at < text.length() && text.charAt(at) == ' ' ? at + 1 : at;
        int found = text.indexOf(next, from);
        if (found != from) {
            calls.isWrong("the document goes on with: " + shown(from));
        }
        if (found >= 0) {
            at = found + next.length();
        }
    }

    private String shown(int from) {
        return text.substring(from, Math.min(text.length(), from + SHOWN));
    }

    /** Without the marks that stand for how the text is set. */
    private static String plain(String marked) {
        return marked.replaceAll("```\\w*", " ").replace("====", " ").replaceAll("\\s+", " ").trim();
    }
}
