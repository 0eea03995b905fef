import java.io.IOException;
import java.nio.file.Files;
import java.nio.file.Path;
import java.util.Arrays;

/**
 * The document's own words: a test of a sentence quotes it, and what no test quotes is told. So a sentence
 * that comes, goes or changes in the document is noticed here.
 */
final class Doc {
    private static final String TEXT = read();
    private static final boolean[] SAID = new boolean[TEXT.length()];

    private Doc() {
    }

    /** How long an object is used, the terms and the promises: no headings, fences, signatures, lists of calls. */
    private static String read() {
        try {
            String all = Files.readString(Path.of("../shared/DOC.md"));
            String bound = all.substring(all.indexOf("An object is used"), all.indexOf("## The public face"))
                    + all.substring(all.indexOf("## Terms"), all.indexOf("## Not promised"));
            return bound.replaceAll("(?m)^(#|```).*$", " ").replaceAll("(?m)^======== \\d ", " ")
                    .replaceAll("(?m)^`(int |long |With)[^`]*`: ", " ")
                    .replaceAll("(?m)^Ahead of the calls .* the interface says: ---- ", " ")
                    .replaceAll("\\s+", " ").trim();
        } catch (IOException e) {
            throw new IllegalStateException(e);
        }
    }

    /** Words that must stand in the document once, whatever is left or right of them. */
    static void says(String words) {
        int at = TEXT.indexOf(words);
        Due.that("the document says \"" + words + "\"", at >= 0);
        Due.that("the document says once \"" + words + "\"", at < 0 || TEXT.indexOf(words, at + 1) < 0);
        if (at >= 0) {
            Arrays.fill(SAID, at, at + words.length(), true);
        }
    }

    /** Every word of the terms and the promises stands in a sentence that a test has quoted. */
    static void allSaid() {
        StringBuilder unsaid = new StringBuilder();
        for (int at = 0; at <= TEXT.length(); at++) {
            if (at < TEXT.length() && !SAID[at]) {
                unsaid.append(TEXT.charAt(at));
            } else if (unsaid.length() > 0) {
                String words = unsaid.toString().trim();
                Due.that("a test quotes \"" + words + "\"", words.matches("[\\s,;:.]*"));
                unsaid.setLength(0);
            }
        }
        Due.that("the document has words", TEXT.length() > 9000);
    }
}
