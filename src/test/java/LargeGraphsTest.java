import java.math.BigDecimal;
import java.math.BigInteger;
import java.util.ArrayList;
import java.util.List;
import java.util.Random;

/** Promises 17 to 28 for graphs with more phrases than can be listed. */
public final class LargeGraphsTest {
    private static final Check CHECK = new Check("large graphs");
    private static final int RUNS = 500;
    private static final int PHRASES = 3;
    private static final BigInteger MOST_TOLD = BigInteger.TEN.pow(18);
    private static int large = 0;
    private static int refused = 0;
    private static int capped = 0;
    private static int withLost = 0;
    private static int mostHits = 0;

    private final int run;
    private final Random random;
    private final Talk talk = new Talk();
    private final SynonymGraphs x = talk.x;
    private final Model model = new Model();
    private LargeModel due;

    private LargeGraphsTest(int run) {
        this.run = run;
        random = new Random(1000 + run);
    }

    public static void main(String[] args) {
        for (int run = 0; run < RUNS; run++) {
            new LargeGraphsTest(run).go();
        }
        System.out.println("large graphs: " + large + ", " + refused + " refused, " + capped
                + " with more than 10^18 rows, " + withLost + " with some lost, " + mostHits + " hits at most");
        CHECK.holds("the runs go where they should",
                large > 300 && refused > 20 && capped > 30 && withLost > 200 && mostHits > 5);
        CHECK.end();
    }

    private void due(String call, long got, long want) {
        CHECK.due("run " + run + ": " + call, got, want);
    }

    private void go() {
        List<String> lefts = tellRules();
        x.reload();
        model.reload();
        tell(some(lefts, 12 + random.nextInt(5)));
        due("input", x.input(), model.input());
        long nodes = model.graph();
        due("graph", x.graph(), nodes);
        if (nodes < 0) {
            refused++;
            return;
        }
        due("sets", x.size(3), model.size(3));
        due = new LargeModel(model);
        large += model.listed ? 0 : 1;
        capped += due.count(0).compareTo(MOST_TOLD) > 0 ? 1 : 0;
        withLost += due.count(1).signum() > 0 ? 1 : 0;
        askOfPhrases();
        askOfRows();
        askOfDocument();
    }

    // ---- what is told

    private List<String> tellRules() {
        // Few words make many sets, many words make many ways out of each.
        int words = random.nextBoolean() ? 3 + random.nextInt(6) : 20 + random.nextInt(100);
        int longest = 1 + random.nextInt(4);
        boolean erasing = random.nextInt(3) == 0;
        List<String> lefts = new ArrayList<>();
        int rules = 1 + random.nextInt(5);
        for (int r = 0; r < rules; r++) {
            lefts.add("l" + r);
            StringBuilder rule = new StringBuilder("l" + r + "=>");
            int sides = 2 + random.nextInt(erasing ? 6 : 7);
            for (int s = 0; s < sides; s++) {
                rule.append(s == 0 ? "" : ",").append(side(words, longest));
            }
            tell(rule.toString());
            due("rule", x.rule(false), model.rule(false));
            if (erasing && random.nextBoolean()) {
                tell("l" + r + "=>");
                due("rule", x.rule(false), model.rule(false));
            }
        }
        return lefts;
    }

    private String side(int words, int longest) {
        StringBuilder side = new StringBuilder();
        for (int i = 1 + random.nextInt(longest); i > 0; i--) {
            side.append(Integer.toString(random.nextInt(words), 36)).append(i > 1 ? " " : "");
        }
        return side + (random.nextInt(3) == 0 ? "^" + (1 + random.nextInt(10)) : "");
    }

    private String some(List<String> words, int count) {
        StringBuilder row = new StringBuilder();
        for (int i = 0; i < count; i++) {
            row.append(words.get(random.nextInt(words.size()))).append(' ');
        }
        return row.toString();
    }

    private void tell(String text) {
        talk.say(text);
        model.text = text;
    }

    private String spelled(List<Integer> row) {
        StringBuilder text = new StringBuilder();
        for (int number : row) {
            for (int b = 0; b < model.word(number, -1); b++) {
                text.append((char) model.word(number, b));
            }
            text.append(' ');
        }
        return text.toString();
    }

    // ---- what is asked

    private BigInteger someOf(BigInteger count) {
        return switch (random.nextInt(6)) {
            case 0 -> BigInteger.ZERO;
            case 1 -> count.subtract(BigInteger.ONE);
            default -> new BigInteger(90, random).mod(count);
        };
    }

    private static long told(BigDecimal weight) {
        return weight == null ? -1 : weight.movePointRight(16).longValueExact();
    }

    private void askOfPhrases() {
        BigInteger count = due.count(3);
        due("phrases", x.phrases(), count.longValueExact());
        due("phrase behind the last", x.phrase(x.phrases(), -1), SynonymGraphs.BAD);
        due("heaviest", x.heaviest(), due.rank(due.heaviest()).longValueExact());
        for (int n = 0; n < PHRASES; n++) {
            BigInteger k = someOf(count);
            List<Integer> row = due.row(3, k);
            long number = k.longValueExact();
            due("words of phrase " + k, x.phrase(number, -1), row.size());
            for (int i = 0; i < row.size(); i += 1 + random.nextInt(16)) {
                due("phrase " + k + ", " + i, x.phrase(number, i), row.get(i));
            }
            due("weight of phrase " + k, x.weight(number), told(due.weight(row)));
            askWhich(row, number);
        }
    }

    private void askWhich(List<Integer> row, long number) {
        String text = spelled(row);
        if (text.length() <= 192) {
            tell(text);
            model.which();
            due("which", x.which(), number);
        }
    }

    private void askOfRows() {
        for (int kind = 0; kind < 3; kind++) {
            BigInteger count = due.count(kind).min(MOST_TOLD);
            due("rows " + kind, x.rows(kind), count.longValueExact());
            due("row behind the last", x.row(kind, count.longValueExact(), -1), SynonymGraphs.BAD);
            for (int n = 0; n < PHRASES && count.signum() > 0; n++) {
                askOfRow(kind, someOf(count));
            }
        }
    }

    private void askOfRow(int kind, BigInteger k) {
        List<Integer> row = due.row(kind, k);
        long number = k.longValueExact();
        due("words of row " + kind + ", " + k, x.row(kind, number, -1), row.size());
        for (int i = 0; i < row.size(); i += 1 + random.nextInt(16)) {
            due("row " + kind + ", " + k + ", " + i, x.row(kind, number, i), row.get(i));
        }
        if (kind == 2) {
            due("weight of what is no phrase", told(due.weight(row)), -1);
        }
    }

    private void askOfDocument() {
        List<Integer> row = new ArrayList<>();
        while (row.size() < 30) {
            row.add(random.nextInt((int) model.told(1)));
            row.addAll(due.row(3, someOf(due.count(3))));
        }
        row = row.subList(0, Math.min(row.size(), 40));
        tell(spelled(row));
        due("document", x.document(), model.document());
        int hits = 0;
        for (int place = 0; place < row.size(); place++) {
            hits += isHit(row.subList(place, row.size()), place, hits) ? 1 : 0;
        }
        due("hits", x.hits(), hits);
        due("hit behind the last", x.hit(hits, 0), SynonymGraphs.BAD);
        due("weight behind the last", x.hitWeight(hits), SynonymGraphs.BAD);
        mostHits = Math.max(mostHits, hits);
    }

    private boolean isHit(List<Integer> rest, int place, int k) {
        int longest = 0;
        int count = 0;
        BigDecimal greatest = BigDecimal.ZERO;
        for (int length = 1; length <= rest.size(); length++) {
            BigDecimal weight = due.weight(rest.subList(0, length));
            if (weight != null) {
                longest = length;
                count++;
                greatest = greatest.max(weight);
            }
        }
        if (count > 0) {
            due("place of hit " + k, x.hit(k, 0), place);
            due("longest of hit " + k, x.hit(k, 1), longest);
            due("phrases of hit " + k, x.hit(k, 2), count);
            due("weight of hit " + k, x.hitWeight(k), told(greatest));
        }
        return count > 0;
    }
}
