import java.io.IOException;
import java.nio.charset.StandardCharsets;
import java.nio.file.Files;
import java.nio.file.Path;
import java.util.BitSet;
import java.util.List;

/**
 * Tests of single sentences of the document. Each says its promise and quotes its sentence, which must stand just once
 * under that promise, or in what is said of all ahead of the first one. What no test quotes is told as wrong, so that
 * no sentence that names an edge can be forgotten.
 */
final class Sentence {
    private static final int PROMISES = 45;
    private static final String DOCUMENT = read();
    private static final int TERMS = DOCUMENT.indexOf("## Terms");
    private static final int FIRST_PROMISE = promiseAt(1);
    private static final int END = promiseAt(PROMISES + 1);
    private static final List<String> NAMES_NO_EDGE = List.of("## Terms", ": how many WORDS it says an hour;",
        "==== 2. READING of an OATH and how many of its WORDS COUNT:", "WORDS one behind another, into the CLAUSE in which they stand:",
        "BROKEN IN ON by a KIND, having SAID so many WORDS:", "==== 3.");
    private static final BitSet QUOTED = new BitSet();
    private static int tests = 0;

    private Sentence() {
    }

    static void test(int promise, String sentence, Runnable body) {
        tests++;
        Due.about("promise " + promise + ", \"" + sentence + "\": ");
        quote(promise, sentence);
        int before = Due.checked();
        try {
            body.run();
        } catch (RuntimeException e) {
            Due.wrong("threw " + e);
        }
        if (Due.checked() == before) {
            Due.wrong("nothing was checked");
        }
        Due.about("");
    }

    /** All that is left besides the quotes is signs between them, headings, and words that name no edge. */
    static void close() {
        System.out.println(tests + " tests of sentences");
        for (String words : NAMES_NO_EDGE) {
            setQuoted(DOCUMENT.indexOf(words), words);
        }
        for (int promise = 1; promise <= PROMISES; promise++) {
            int begin = promiseAt(promise);
            int behindName = DOCUMENT.indexOf('`', DOCUMENT.indexOf('`', begin) + 1);
            setQuoted(begin, DOCUMENT.substring(begin, behindName));
        }
        int from = TERMS;
        while (from < END) {
            int to = Math.min(END, QUOTED.nextSetBit(from) < 0 ? END : QUOTED.nextSetBit(from));
            String left = DOCUMENT.substring(from, to);
            if (left.matches(".*[A-Za-z0-9].*")) {
                Due.wrong("no test quotes \"" + left + "\"");
            }
            from = QUOTED.nextClearBit(to);
        }
    }

    private static void quote(int promise, String sentence) {
        int end = promiseAt(promise + 1);
        int at = DOCUMENT.indexOf(sentence, promiseAt(promise));
        if (at < 0 || at + sentence.length() > end) {
            end = FIRST_PROMISE;
            at = DOCUMENT.indexOf(sentence);
        }
        int again = DOCUMENT.indexOf(sentence, at + 1);
        if (at < 0 || at + sentence.length() > end || again >= 0 && again < end) {
            Due.wrong("does not stand there just once");
        } else {
            setQuoted(at, sentence);
        }
    }

    private static void setQuoted(int at, String words) {
        if (at < 0) {
            Due.wrong("does not stand in the document: \"" + words + "\"");
        } else {
            QUOTED.set(at, at + words.length());
        }
    }

    private static int promiseAt(int promise) {
        int at = DOCUMENT.indexOf(promise > PROMISES ? "## Not promised" : "## Promise " + promise + ":");
        if (at < 0) {
            throw new IllegalStateException("the document has no promise " + promise);
        }
        return at;
    }

    /** The document with each row of blanks and ends of lines as one blank. */
    private static String read() {
        try {
            String all = Files.readString(Path.of("../shared/DOC.md"), StandardCharsets.UTF_8);
            return all.replace("```text", " ").replace("```", " ").replaceAll("\\s+", " ");
        } catch (IOException e) {
            throw new IllegalStateException("../shared/DOC.md cannot be read", e);
        }
    }
}
