import java.io.IOException;
import java.nio.file.Files;
import java.nio.file.Path;
import java.util.Arrays;
import java.util.TreeSet;
import java.util.regex.Matcher;
import java.util.regex.Pattern;

/**
 * Tests of the document's sentences. Each test first says which promise it is of and which words it holds; the words must
 * stand in the document, and at the end no words that name a boundary may be left that no test has said.
 */
final class Held {
    private static final Path DOCUMENT = Path.of("../shared/DOC.md");
    private static final int PROMISES = 36;
    private static final Pattern BOUNDARY = Pattern.compile("\\d|UNKNOWN|OUTSIDE|\\bNOT\\b|FULL|NONE|at most|no more|empty|blanks|"
        + "least|greatest|first|last|latest|oldest|again|once|alone|nobody|nothing|[Ww]ithout|refused|beyond|fewer|too many");
    /** What of the document tells nothing of the class: headings, the forms of the calls and where they stand, how it is written. */
    private static final Pattern NO_SENTENCE = Pattern.compile("## Promise \\d+: \\w+( \\w+)* `[^`]*`|======== \\d|```(text)?|"
        + "Ahead of the calls .*? the interface says: ---- [^.]*\\.|Words in capitals are told where they come first\\.");

    private final Due due = new Due();
    private final String document;
    private final boolean[] said;
    private final TreeSet<Integer> promises = new TreeSet<>();
    private String now = "";

    Held() throws IOException {
        document = Files.readString(DOCUMENT).replaceAll("\\s+", " ");
        said = new boolean[document.length()];
    }

    /** A test of these words, which stand under the promise itself. */
    void promise(int number, String words) {
        int from = document.indexOf("## Promise " + number + ": ");
        say(number, "promise " + number, words, from, document.indexOf("## ", from + 3));
    }

    /** A test of these words of the Terms, as they bear on a promise. */
    void terms(int number, String words) {
        int from = document.indexOf("## Terms");
        say(number, "terms, promise " + number, words, from, document.indexOf("## Promise 1:"));
    }

    /** A test of these words, which stand ahead of the public face. */
    void head(int number, String words) {
        say(number, "head, promise " + number, words, 0, document.indexOf("## The public face"));
    }

    private void say(int number, String where, String words, int from, int to) {
        now = where + " \"" + words + "\": ";
        int at = document.indexOf(words, from);
        boolean stands = from >= 0 && at >= 0 && at + words.length() <= to;
        due.is(now + "these words stand in the document", stands ? 1 : 0, 1);
        if (stands) {
            Arrays.fill(said, at, at + words.length(), true);
            promises.add(number);
        }
    }

    void is(String call, long got, long want) {
        due.is(now + call, got, want);
    }

    void same(String what, int[] got, int... want) {
        is(what + ": how many", got.length, want.length);
        for (int i = 0; i < Math.min(got.length, want.length); i++) {
            is(what + " [" + i + "]", got[i], want[i]);
        }
    }

    void end() {
        now = "";
        for (int number = 1; number <= PROMISES; number++) {
            is("promise " + number + " has a test", promises.contains(number) ? 1 : 0, 1);
        }
        String left = unsaid();
        Matcher boundary = BOUNDARY.matcher(left);
        while (boundary.find()) {
            String around = left.substring(Math.max(0, boundary.start() - 40), Math.min(left.length(), boundary.end() + 40));
            is("a boundary that no test says: .." + around + "..", 1, 0);
        }
        due.end();
    }

    /** The sentences of the Terms and of the promises, '_' where a test has said them. */
    private String unsaid() {
        StringBuilder left = new StringBuilder(document);
        Matcher none = NO_SENTENCE.matcher(document);
        while (none.find()) {
            Arrays.fill(said, none.start(), none.end(), true);
        }
        for (int i = 0; i < said.length; i++) {
            if (said[i]) {
                left.setCharAt(i, '_');
            }
        }
        return left.substring(document.indexOf("## Terms"), document.indexOf("## Not promised"));
    }
}
