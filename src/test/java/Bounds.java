import java.io.IOException;
import java.nio.file.Files;
import java.nio.file.Path;
import java.util.Set;
import java.util.TreeSet;

/**
 * Checks the document sentence by sentence: what is asked behind a sentence is asked for its sake.
 * A sentence that the document does not have, or that nothing is asked for, is a wrong answer too.
 */
final class Bounds {
    static final int BAD = -1;
    static final int NONE = -2;
    static final int FULL = -3;
    static final int LEAST = Integer.MIN_VALUE;
    static final int GREATEST = Integer.MAX_VALUE;
    static final long WHOLE = 10000000000000000L;

    private final Check check = new Check("bounds");
    private final String document;
    private final Set<String> promisesTold = new TreeSet<>();
    private String sentence = "";
    private int sentences = 0;
    private int asked = 1;

    Bounds(Path file) throws IOException {
        document = Files.readString(file);
    }

    /** What is asked from here on is what these words of the document want. */
    void sentence(String words) {
        endSentence();
        sentence = words;
        sentences++;
        asked = 0;
        int at = document.indexOf(words);
        check.holds("the document has: " + words, at >= 0);
        int heading = at < 0 ? -1 : document.lastIndexOf("\n## Promise ", at);
        if (heading >= 0) {
            promisesTold.add(document.substring(heading + 4, document.indexOf(':', heading)));
        }
    }

    private void endSentence() {
        check.holds("something is asked for: " + sentence, asked > 0);
    }

    void due(String call, long got, long want) {
        asked++;
        check.due("[" + sentence + "] " + call, got, want);
    }

    void same(String what, String got, String want) {
        asked++;
        check.holds("[" + sentence + "] " + what + " is <" + got + ">, due is <" + want + ">", want.equals(got));
    }

    void end() {
        endSentence();
        for (int promise = 1; promise <= 28; promise++) {
            check.holds("promise " + promise + " has a sentence", promisesTold.contains("Promise " + promise));
        }
        System.out.println("bounds: " + sentences + " sentences of the document");
        check.end();
    }
}
