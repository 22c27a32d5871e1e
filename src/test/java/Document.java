import java.io.IOException;
import java.nio.file.Files;
import java.nio.file.Path;

/** A part of ../shared/DOC.md, gone through in its order: each of its words stands in a quote with a run of its own. */
final class Document {
    private static final Path FILE = Path.of("../shared/DOC.md");

    private final Check check;
    private final Script script;
    // Empty where the document can't be read: then the runs alone are looked at.
    private final String part;
    private int at = 0;

    /** The part from one mark on, up to another. */
    Document(Check check, String from, String until) {
        this.check = check;
        this.script = new Script(check);
        this.part = part(wholeText(), from, until);
    }

    /** The document's next words, and a run that would go otherwise if they did not hold. */
    void says(int promise, String words, String lines) {
        quote(words);
        script.says(promise, words, lines);
    }

    /** Words of the document that were gone past already, and one more run. */
    void again(int promise, String words, String lines) {
        script.says(promise, words, lines);
    }

    private void quote(String words) {
        if (part.isEmpty()) {
            return;
        }
        int found = part.indexOf(words, at);
        check.due("the document goes on with <" + words + ">", found >= 0, true);
        if (found >= 0) {
            nothingLeftOut(part.substring(at, found));
            at = found + words.length();
        }
    }

    void end() {
        nothingLeftOut(part.substring(at));
        at = part.length();
    }

    private void nothingLeftOut(String between) {
        String words = between
            .replaceAll("(?m)^#+ .*$", "")
            .replaceAll("(?m)^```.*$", "")
            .replaceAll("`[^`\n]*`:", "")
            .replaceAll("==== [IV]+\\.", "");
        boolean none = words.chars().noneMatch(Character::isLetterOrDigit);
        check.due("words of the document without a run: <" + words.strip() + ">", none, true);
    }

    private static String part(String text, String from, String until) {
        int begin = text.indexOf(from);
        int end = text.indexOf(until, Math.max(0, begin));
        return begin < 0 || end < 0 ? "" : text.substring(begin, end);
    }

    /** Empty where it can't be read. */
    static String wholeText() {
        try {
            return Files.isReadable(FILE) ? Files.readString(FILE) : "";
        } catch (IOException e) {
            return "";
        }
    }
}
