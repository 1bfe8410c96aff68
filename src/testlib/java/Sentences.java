import java.io.IOException;
import java.nio.file.Files;
import java.nio.file.Path;
import java.util.regex.Matcher;
import java.util.regex.Pattern;

/**
 * The document from "Terms" to its last promise. A test says by its words which sentence it is for, and
 * at the end every word of the document must have been said and every sentence have been asked about:
 * so that no sentence is without a test of its own.
 */
public final class Sentences {
    private static final Pattern NO_SENTENCE = Pattern.compile(
            "## Promise \\d+: [^\n]*|`(int|boolean) \\w+\\([^`]*`|## Terms|```(text)?|==== \\d");

    private final Checks checks = new Checks();
    private final String doc;
    private final boolean[] said;
    private int from;
    private int to;
    private String sentence = "";
    private int asked = 1;

    public Sentences() {
        String whole = read();
        int first = whole.indexOf("## Terms");
        int last = whole.indexOf("## Not promised");
        checks.due("the document has its terms and promises", first >= 0 && last > first, true);
        doc = whole.substring(Math.max(0, first), Math.max(first, last));
        said = new boolean[doc.length()];
        Matcher m = NO_SENTENCE.matcher(doc);
        while (m.find()) mark(m.start(), m.end());
        to = doc.length();
    }

    private static String read() {
        try {
            return Files.readString(Path.of("../shared/DOC.md"));
        } catch (IOException e) {
            System.out.println("../shared/DOC.md can't be read: " + e);
            return "";
        }
    }

    private void mark(int start, int end) {
        for (int i = start; i < end; i++) said[i] = true;
    }

    private void scope(String head, String behind) {
        from = doc.indexOf(head);
        to = doc.indexOf(behind, Math.max(0, from));
        if (to < 0) to = doc.length();
        checks.due("the document has " + head.trim(), from >= 0, true);
        from = Math.max(0, from);
    }

    /** What is said from now on stands in the terms. */
    public void terms() {
        scope("## Terms", "## Promise 1:");
    }

    /** What is said from now on stands in this promise. */
    public void promise(int n) {
        scope("## Promise " + n + ":", "## Promise " + (n + 1) + ":");
    }

    /** The sentence that the answers from now on are due by. */
    public void says(String words) {
        if (asked == 0) checks.due("nothing is asked about: " + sentence, asked, 1);
        String pattern = "\\Q" + words.trim().replaceAll("\\s+", "\\\\E\\\\s+\\\\Q") + "\\E";
        Matcher m = Pattern.compile(pattern).matcher(doc).region(from, to);
        boolean found = m.find();
        checks.due("the document says there: " + words, found, true);
        if (found) mark(m.start(), m.end());
        sentence = words;
        asked = 0;
    }

    public void due(String call, long got, long want) {
        asked++;
        checks.due("\"" + sentence + "\" " + call, got, want);
    }

    public void due(String call, boolean got, boolean want) {
        due(call, got ? 1 : 0, want ? 1 : 0);
    }

    public void due(String call, String got, String want) {
        asked++;
        boolean same = got.equals(want);
        if (!same) System.out.println("got  " + got + "\nwant " + want);
        checks.due("\"" + sentence + "\" " + call, same, true);
    }

    /** Ends the test: what no test has said is told, and counts as wrong. */
    public void close() {
        StringBuilder left = new StringBuilder();
        for (int i = 0; i < doc.length(); i++) left.append(said[i] ? '\n' : doc.charAt(i));
        for (String part : left.toString().split("\n+")) {
            boolean words = part.chars().anyMatch(Character::isLetterOrDigit);
            if (words) checks.due("no test says: " + part.trim(), 0, 1);
        }
        if (asked == 0) checks.due("nothing is asked about: " + sentence, asked, 1);
        checks.close();
    }
}
