import java.util.Map;
import java.util.StringJoiner;
import java.util.TreeMap;
import java.util.function.IntUnaryOperator;
import java.util.stream.IntStream;

/** Compares what README.md says with what the class answers. */
final class ReadmeCheck {
    private final Check check = new Check("README.md");
    // An object has 512 calls, so each word is asked for once.
    private final Map<Integer, String> known = new TreeMap<>();

    void due(String call, long got, long want) {
        check.due(call, got, want);
    }

    void fed(String call, String text, int... numbers) {
        StringBuilder bytes = new StringBuilder();
        for (int four : numbers) {
            for (int shift = 24; shift >= 0; shift -= 8) {
                bytes.append((char) (four >>> shift & 255));
            }
        }
        same(call, bytes.toString(), text);
    }

    void spells(String call, String text, IntUnaryOperator bytes) {
        same(call, spelled(bytes), text);
    }

    void tells(String call, String text, SynonymGraphs x, IntUnaryOperator numbers) {
        StringJoiner row = new StringJoiner(" ");
        allOf(numbers).forEach(number ->
                row.add(known.computeIfAbsent(number, n -> spelled(i -> x.word(n, i)))));
        same(call, row.toString(), text);
    }

    private static String spelled(IntUnaryOperator bytes) {
        StringBuilder word = new StringBuilder();
        allOf(bytes).forEach(one -> word.append((char) one));
        return word.toString();
    }

    /** What is told from 0 on, up to the first that is refused. */
    private static IntStream allOf(IntUnaryOperator told) {
        return IntStream.iterate(0, i -> i + 1).map(told).takeWhile(one -> one >= 0);
    }

    private void same(String call, String got, String want) {
        check.holds(call + " spells <" + got + ">, README.md says <" + want + ">", got.equals(want));
    }

    void end() {
        check.end();
    }
}
