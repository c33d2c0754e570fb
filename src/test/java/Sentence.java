import java.io.IOException;
import java.nio.file.Files;
import java.nio.file.Path;
import java.util.BitSet;
import java.util.Set;
import java.util.TreeSet;

/** Tests whose names are sentences of the document, by its own words: each must stand there, and none may be left. */
final class Sentence {
    /** For what stands ahead of the promises. */
    static final int TERMS = 0;
    static final int PROMISES = 38;
    /** Signs and titles of the document that ask for nothing. */
    private static final String[] NAMES_NOTHING = {"# ShakeHands", "## What it is", "## The public face", "## Terms",
        "======== 1", "======== 2", "```text", "```java", "```", "##"};

    private static final Set<Integer> looked = new TreeSet<>();
    private static String document = "";
    /** The places of the document that stand in a test's name. */
    private static final BitSet named = new BitSet();

    private Sentence() {
    }

    /** Without the document the tests run all the same, but their names are not looked up. */
    static void open(Path file) throws IOException {
        if (Files.isRegularFile(file)) {
            document = Files.readString(file).replaceAll("\\s+", " ");
        } else {
            System.out.println("there is no " + file + ": sentences are not looked up");
        }
    }

    /** The test of a sentence of a promise (or of TERMS). */
    static void says(int promise, String words, Runnable test) {
        Due.sentence = "Promise " + promise + ", '" + words + "': ";
        looked.add(promise);
        if (!document.isEmpty()) {
            int at = document.indexOf(words, begin(promise));
            boolean stands = at >= 0 && at + words.length() <= begin(promise + 1);
            Due.holds("stands in the document", stands);
            if (stands) {
                named.set(at, at + words.length());
            }
        }
        int before = Due.passed + Due.failed;
        test.run();
        Due.holds("asks something", Due.passed + Due.failed > before);
        Due.sentence = "";
    }

    /** Where a promise begins; behind the last one what is not promised. */
    private static int begin(int promise) {
        return promise == TERMS ? 0
                : document.indexOf(promise > PROMISES ? "## Not promised" : "## Promise " + promise + ":");
    }

    static void eachPromiseWasLooked() {
        for (int promise = TERMS; promise <= PROMISES; promise++) {
            Due.holds("a sentence of promise " + promise, looked.contains(promise));
        }
    }

    /** That nothing but titles and signs is left between the words that tests are called by. */
    static void eachWordWasLooked() {
        int end = document.isEmpty() ? 0 : begin(PROMISES + 1);
        for (int from = named.nextClearBit(0); from < end; from = named.nextClearBit(from)) {
            int next = named.nextSetBit(from);
            int to = next < 0 || next > end ? end : next;
            String left = document.substring(from, to);
            for (String title : NAMES_NOTHING) {
                left = left.replace(title, " ");
            }
            Due.holds("no test is called by: " + left.strip(), left.chars().noneMatch(Character::isLetterOrDigit));
            from = to;
        }
    }
}
