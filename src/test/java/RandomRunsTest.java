import java.util.Random;

/** All promises: runs of calls, the same in each run of this test, answered by the class and by the model. */
public final class RandomRunsTest {
    private static final Check CHECK = new Check("random runs");
    private static final int RUNS = 4000;
    // An object has 512 calls; a last question may need many.
    private static final int CALLS = 330;

    private final Random random;
    private final int run;
    // Few words and many alternatives: graphs with many sets.
    private final boolean dense;
    private final SynonymGraphs x = new SynonymGraphs();
    private final Model model = new Model();
    private final String[] words;
    private int calls = 0;
    private static int graphs = 0;
    private static int fullGraphs = 0;
    private static int longGraphs = 0;
    private static int emptyPhrases = 0;

    private RandomRunsTest(int run) {
        this.run = run;
        random = new Random(run);
        String[] all = {"a", "b", "c", "d", "e", "f", "abcdefghijkl", "10", "5", "z9"};
        dense = run % 4 == 0;
        words = new String[dense ? 2 + random.nextInt(2) : 2 + random.nextInt(all.length - 1)];
        System.arraycopy(all, 0, words, 0, words.length);
    }

    public static void main(String[] args) {
        for (int run = 0; run < RUNS; run++) {
            new RandomRunsTest(run).go();
        }
        System.out.println("random runs: " + graphs + " graphs, " + fullGraphs + " refused, " + longGraphs
                + " not listed, " + emptyPhrases + " with a phrase without a word");
        CHECK.holds("the runs go where they should", graphs > 1000 && fullGraphs > 10 && longGraphs > 50 && emptyPhrases > 50);
        CHECK.end();
    }

    private void go() {
        int rules = random.nextInt(6);
        for (int i = 0; i < rules; i++) {
            tellRule();
        }
        due("reload", x.reload(), model.reload());
        tellRow(16);
        due("input", x.input(), model.input());
        drawGraph();
        while (calls < CALLS) {
            change();
            for (int j = 0; j < 4; j++) {
                ask();
            }
        }
    }

    private void due(String call, long got, long want) {
        calls++;
        CHECK.due("run " + run + ": " + call, got, want);
    }

    private void change() {
        int kind = random.nextInt(40);
        if (kind < 3) {
            tellRule();
        } else if (kind < 4) {
            due("fresh", x.fresh(), model.fresh());
        } else if (kind < 6) {
            due("reload", x.reload(), model.reload());
        } else if (kind < 9) {
            tellRow(16);
            due("input", x.input(), model.input());
        } else if (kind < 12) {
            tellRow(40);
            due("document", x.document(), model.document());
        } else if (kind < 14) {
            drawGraph();
        } else if (kind < 16) {
            int n = number(6);
            due("cut " + n, x.cut(n), model.cut(n));
        } else if (kind < 18) {
            tell(words[random.nextInt(words.length)]);
        } else if (kind < 20) {
            askWhich();
        }
    }

    private void drawGraph() {
        long nodes = model.graph();
        due("graph", x.graph(), nodes);
        graphs++;
        fullGraphs += nodes < 0 ? 1 : 0;
        longGraphs += model.listed ? 0 : 1;
        emptyPhrases += model.listed && model.phrase(0, -1) == 0 && model.size(1) > 0 ? 1 : 0;
    }

    private void askWhich() {
        tellRow(16);
        if (model.listed && random.nextInt(3) > 0) {
            due("cut all", x.cut(x.told(0)), model.cut(model.text.length()));
            tell(someRow(random.nextInt(3)));
        }
        boolean compared = model.listed;
        long due = model.which();
        long got = x.which();
        if (compared || due < -9) {
            due("which", got, due);
        }
    }

    /** A phrase, or a row of the flat graph, as a text. */
    private String someRow(int kind) {
        long rows = kind == 0 ? model.phrases() : model.rows(kind - 1);
        StringBuilder text = new StringBuilder();
        if (rows > 0) {
            long k = Math.floorMod(random.nextLong(), rows);
            long length = kind == 0 ? model.phrase(k, -1) : model.row(kind - 1, k, -1);
            for (int i = 0; i < length; i++) {
                int number = (int) (kind == 0 ? model.phrase(k, i) : model.row(kind - 1, k, i));
                for (int b = 0; b < model.word(number, -1); b++) {
                    text.append((char) model.word(number, b));
                }
                text.append(' ');
            }
        }
        return text.length() > 190 ? "" : text.toString();
    }

    private void tell(String text) {
        for (int at = 0; at < text.length(); at += 16) {
            String part = text.substring(at, Math.min(text.length(), at + 16));
            int missing = 16 - part.length();
            part = part + " ".repeat(missing);
            int a = Talk.four(part, 0);
            int b = Talk.four(part, 4);
            int c = Talk.four(part, 8);
            int d = Talk.four(part, 12);
            due("feed", x.feed(a, b, c, d), model.feed(a, b, c, d));
            due("cut", x.cut(missing), model.cut(missing));
        }
    }

    private void tellRule() {
        StringBuilder text = new StringBuilder();
        int shape = random.nextInt(4);
        addSides(text);
        if (shape > 0) {
            text.append(random.nextBoolean() ? "=>" : " => ");
        }
        if (shape > 1) {
            addSides(text);
        }
        spoil(text);
        tell(text.toString());
        boolean both = random.nextInt(3) == 0;
        due("rule " + text, x.rule(both), model.rule(both));
    }

    private void addSides(StringBuilder text) {
        int sides = 1 + random.nextInt(dense || random.nextInt(8) == 0 ? 8 : 3);
        for (int s = 0; s < sides; s++) {
            text.append(s == 0 ? "" : random.nextBoolean() ? "," : ", ");
            int length = 1 + random.nextInt(random.nextInt(3) == 0 ? 4 : 2);
            for (int i = 0; i < length; i++) {
                text.append(i == 0 ? "" : " ").append(words[random.nextInt(words.length)]);
            }
            if (random.nextInt(3) == 0) {
                text.append("^").append(1 + random.nextInt(10));
            }
        }
    }

    private void tellRow(int most) {
        StringBuilder text = new StringBuilder();
        int length = random.nextInt(dense ? 2 : 20) == 0 ? most + random.nextInt(2) : random.nextInt(most / 2 + 1);
        for (int i = 0; i < length; i++) {
            String word = words[random.nextInt(words.length)];
            text.append(word.length() > 3 && length > 10 ? "a" : word).append(" ");
        }
        spoil(text);
        tell(text.toString());
    }

    private void spoil(StringBuilder text) {
        String wrong = ",^=> aA5~";
        int times = random.nextInt(8) == 0 ? 1 + random.nextInt(2) : 0;
        for (int i = 0; i < times; i++) {
            int at = random.nextInt(text.length() + 1);
            if (random.nextBoolean() || at == text.length()) {
                text.insert(at, wrong.charAt(random.nextInt(wrong.length())));
            } else {
                text.deleteCharAt(at);
            }
        }
        text.setLength(Math.min(text.length(), 200));
    }

    private int number(int usual) {
        return switch (random.nextInt(30)) {
            case 0 -> Integer.MIN_VALUE;
            case 1 -> Integer.MAX_VALUE;
            case 2 -> random.nextInt();
            default -> random.nextInt(usual + 5) - 4;
        };
    }

    private long longNumber(long count) {
        return switch (random.nextInt(20)) {
            case 0 -> Long.MIN_VALUE;
            case 1 -> Long.MAX_VALUE;
            case 2 -> random.nextInt(6) - 3L;
            case 3 -> count - random.nextInt(3);
            default -> Math.floorMod(random.nextLong(), Math.max(1, count));
        };
    }

    private void ask() {
        int kind = random.nextInt(20);
        int k = number(12);
        int i = number(8);
        switch (kind) {
            case 0 -> due("told", x.told(k), model.told(k));
            case 1 -> due("word", x.word(k, i), model.word(k, i));
            case 2 -> due("left", x.left(k, i), model.left(k, i));
            case 3 -> askAlternative(k, i);
            case 4 -> due("longest", x.longest(k), model.longest(k));
            case 5 -> due("size", x.size(i), model.size(i));
            case 6 -> due("match", x.match(k, i), model.match(k, i));
            case 7 -> due("edge", x.edge(k + i, i), model.edge(k + i, i));
            case 8 -> due("position", x.position(k, i), model.position(k, i));
            default -> {
                if (model.listed) {
                    askOfPhrases(kind, k, i);
                } else {
                    askOfMany();
                }
            }
        }
    }

    private void askAlternative(int l, int i) {
        int a = number(6);
        due("alternative", x.alternative(l, a, i), model.alternative(l, a, i));
    }

    private void askOfPhrases(int kind, int k, int i) {
        long phrase = longNumber(model.phrases());
        switch (kind) {
            case 9 -> due("phrases", x.phrases(), model.phrases());
            case 10, 11 -> due("phrase", x.phrase(phrase, i), model.phrase(phrase, i));
            case 12 -> due("weight", x.weight(phrase), model.weight(phrase));
            case 13 -> due("heaviest", x.heaviest(), model.heaviest());
            case 14 -> due("rows", x.rows(i), model.rows(i));
            case 15, 16 -> askRow(i);
            case 17 -> due("hits", x.hits(), model.hits());
            case 18 -> due("hit", x.hit(k, i), model.hit(k, i));
            default -> due("hitWeight", x.hitWeight(k), model.hitWeight(k));
        }
    }

    private void askRow(int i) {
        int rowKind = random.nextInt(10) == 0 ? number(2) : random.nextInt(3);
        long row = longNumber(Math.max(0, model.rows(rowKind)));
        due("row", x.row(rowKind, row, i), model.row(rowKind, row, i));
    }

    /** Where phrases can't be listed, the answers must at least go together. */
    private void askOfMany() {
        long phrases = x.phrases();
        long k = Math.floorMod(random.nextLong(), phrases);
        due("flat rows", x.rows(0), model.rows(0));
        due("lost and spelled", Math.min(1000000000000000000L, x.rows(2) + phrases - x.rows(1)), x.rows(0));
        long heaviest = x.heaviest();
        CHECK.holds("heaviest", x.weight(heaviest) > x.weight(k) || x.weight(heaviest) == x.weight(k) && heaviest <= k);
        StringBuilder text = new StringBuilder();
        int length = x.phrase(k, -1);
        for (int i = 0; i < length; i++) {
            int number = x.phrase(k, i);
            for (int b = 0; b < model.word(number, -1); b++) {
                text.append((char) model.word(number, b));
            }
            text.append(' ');
        }
        calls += 10 + length;
        if (text.length() < 190 && x.told(0) == 0) {
            tell(text.toString());
            model.which();
            due("which of phrase " + k, x.which(), k);
        }
    }
}
