/** What an object answers, as one text: two objects that were told the same have the same. */
final class Portrait {
    private final SynonymGraphs x;
    private final StringBuilder answers = new StringBuilder();

    private Portrait(SynonymGraphs x) {
        this.x = x;
    }

    /** By calls that only ask, under a hundred of them: an object has 512. */
    static String of(SynonymGraphs x) {
        Portrait portrait = new Portrait(x);
        portrait.texts();
        portrait.rules();
        portrait.graph();
        portrait.phrases();
        portrait.flat();
        portrait.hits();
        return portrait.answers.toString();
    }

    private void add(String name, long... values) {
        answers.append(name);
        for (long value : values) {
            answers.append(' ').append(value);
        }
        answers.append("; ");
    }

    private void texts() {
        for (int what = 0; what <= 8; what++) {
            add("told" + what, x.told(what));
        }
        int words = x.told(1);
        for (int n : new int[] {0, words - 2, words - 1}) {
            add("word", x.word(n, -1), x.word(n, 0), x.word(n, 1));
        }
    }

    private void rules() {
        int lefts = x.told(4);
        for (int l : new int[] {0, lefts - 1}) {
            int alternatives = x.left(l, -2);
            add("left", x.left(l, -3), alternatives, x.left(l, -1), x.left(l, 0));
            add("first", x.alternative(l, 0, -2), x.alternative(l, 0, -1), x.alternative(l, 0, 0));
            int last = alternatives - 1;
            add("last", x.alternative(l, last, -2), x.alternative(l, last, -1), x.alternative(l, last, 0));
        }
    }

    private void graph() {
        add("longest", x.longest(0), x.longest(x.told(6) - 1));
        add("size", x.size(0), x.size(1), x.size(2), x.size(3), x.size(4));
        for (int k : new int[] {0, x.size(2) - 1}) {
            add("match", x.match(k, 0), x.match(k, 1), x.match(k, 2), x.match(k, 3), x.match(k, 4));
        }
        for (int k : new int[] {0, x.size(1) - 1}) {
            add("edge", x.edge(k, 0), x.edge(k, 1), x.edge(k, 2), x.edge(k, 3));
        }
    }

    private void phrases() {
        long phrases = x.phrases();
        add("phrases", phrases, x.heaviest());
        for (long k : new long[] {0, phrases - 1}) {
            add("phrase", x.phrase(k, -1), x.phrase(k, 0), x.weight(k));
        }
    }

    private void flat() {
        add("position", x.position(0, -1), x.position(0, 0));
        for (int kind = 0; kind <= 2; kind++) {
            long rows = x.rows(kind);
            add("rows", rows, x.row(kind, 0, -1), x.row(kind, rows - 1, -1), x.row(kind, rows - 1, 0));
        }
    }

    private void hits() {
        int hits = x.hits();
        add("hits", hits);
        for (int k : new int[] {0, hits - 1}) {
            add("hit", x.hit(k, 0), x.hit(k, 1), x.hit(k, 2), x.hitWeight(k));
        }
    }
}
