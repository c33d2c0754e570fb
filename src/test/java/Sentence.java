import java.io.IOException;
import java.nio.file.Files;
import java.nio.file.Path;
import java.util.Set;
import java.util.TreeSet;

/** Tests whose names are sentences of the document, by its own words: each must stand there. */
final class Sentence {
    /** For what stands ahead of the promises. */
    static final int TERMS = 0;
    static final int PROMISES = 38;

    private static final Set<Integer> looked = new TreeSet<>();
    private static String document = "";

    private Sentence() {
    }

    /** Without the document the tests run all the same, but their names are not looked up. */
    static void open(Path file) throws IOException {
        if (Files.isRegularFile(file)) {
            document = Files.readString(file).replaceAll("\\s+", " ") + " ## Promise 39:";
        } else {
            System.out.println("there is no " + file + ": sentences are not looked up");
        }
    }

    /** The test of a sentence of a promise (or of TERMS). */
    static void says(int promise, String words, Runnable test) {
        Due.sentence = "Promise " + promise + ", '" + words + "': ";
        looked.add(promise);
        if (!document.isEmpty()) {
            Due.holds("stands in the document", part(promise).contains(words));
        }
        int before = Due.passed + Due.failed;
        test.run();
        Due.holds("asks something", Due.passed + Due.failed > before);
        Due.sentence = "";
    }

    private static String part(int promise) {
        int from = promise == TERMS ? 0 : document.indexOf("## Promise " + promise + ":");
        int to = document.indexOf("## Promise " + (promise + 1) + ":");
        return from < 0 || to < from ? "" : document.substring(from, to);
    }

    static void eachPromiseWasLooked() {
        for (int promise = TERMS; promise <= PROMISES; promise++) {
            Due.holds("a sentence of promise " + promise, looked.contains(promise));
        }
    }
}
