/** Promises 11 to 16: input, longest, graph, size, match, edge. */
public final class GraphTest {
    private static final int BAD = -1;
    private static final int NONE = -2;
    private static final int FULL = -3;
    private static final Check CHECK = new Check("graph");
    /** Eight alternatives of four words, no two with the same first word: 24 inner nodes. */
    static final String WIDE = "a => a1 b c d, a2 b c d, a3 b c d, a4 b c d, a5 b c d, a6 b c d, a7 b c d, a8 b c d";

    public static void main(String[] args) {
        input();
        longest();
        matches();
        edges();
        withoutWord();
        emptyInput();
        sets();
        mostSets();
        mostNodes();
        graphStaysAsItWas();
        wrongNumbers();
        CHECK.end();
    }

    private static void input() {
        Talk talk = new Talk();
        CHECK.due("input", talk.input("  b a  b "), 3);
        CHECK.due("words", talk.x.told(1), 2);
        CHECK.due("word 0", talk.x.word(0, 0), 'b');
        CHECK.due("16 words", talk.input("a ".repeat(16)), 16);
        CHECK.due("17 words", talk.input("a ".repeat(16) + " c ,"), -10 - 33);
        CHECK.due("input stays", talk.x.told(6), 16);
        CHECK.due("no new word", talk.x.told(1), 2);
        CHECK.due("a comma", talk.input("a , b"), -12);
        CHECK.due("a caret", talk.input("a^5"), -11);
        CHECK.due("an arrow", talk.input("a b=>"), -13);
        CHECK.due("half an arrow", talk.input("a b ="), -14);
        CHECK.due("the other half", talk.input(">"), -10);
        CHECK.due("a great letter", talk.input("a bC"), -13);
        CHECK.due("13 bytes", talk.input("a abcdefghijklm"), -12);
        CHECK.due("12 bytes", talk.input("a abcdefghijkl"), 2);
        CHECK.due("nothing", talk.input(""), 0);
        CHECK.due("blanks", talk.input("    "), 0);
        CHECK.due("an empty input", talk.x.told(6), 0);
    }

    private static void longest() {
        Talk talk = new Talk();
        talk.rule("a, a b, b c d e, c");
        talk.input("a b c d e a");
        CHECK.due("nothing in force", talk.x.longest(0), 0);
        talk.x.reload();
        int[] due = {2, 4, 1, 0, 0, 1};
        for (int i = 0; i < due.length; i++) {
            CHECK.due("longest " + i, talk.x.longest(i), due[i]);
        }
        CHECK.due("longest -1", talk.x.longest(-1), BAD);
        CHECK.due("longest 6", talk.x.longest(6), BAD);
        talk.x.fresh();
        talk.x.reload();
        CHECK.due("nothing in force again", talk.x.longest(0), 0);
    }

    private static void match(Talk talk, int k, int... due) {
        for (int what = 0; what < 5; what++) {
            CHECK.due("match " + k + " " + what, talk.x.match(k, what), due[what]);
        }
    }

    private static void edge(Talk talk, int k, int... due) {
        for (int what = 0; what < 4; what++) {
            CHECK.due("edge " + k + " " + what, talk.x.edge(k, what), due[what]);
        }
    }

    private static void matches() {
        Talk talk = Talk.graph("a b c a q b c d", "a, a b^3, x", "b c d => y", "b c => z");
        CHECK.due("nodes", talk.x.size(0), 8);
        CHECK.due("matches", talk.x.size(2), 5);
        match(talk, 0, 0, 2, 1, 3, 0);
        match(talk, 1, 2, 1, NONE, 1, 2);
        match(talk, 2, 3, 1, 0, 3, 3);
        match(talk, 3, 4, 1, NONE, 1, 5);
        match(talk, 4, 5, 3, 3, 1, 6);
        CHECK.due("match 5", talk.x.match(5, 0), BAD);
        // What a rule lays is not matched again.
        Talk again = Talk.graph("a", "a => b", "b => c");
        CHECK.due("one match", again.x.size(2), 1);
        CHECK.due("its word", again.x.edge(0, 2), 1);
    }

    private static void edges() {
        Talk talk = Talk.graph("a q a", "a => b c d^4, e, f g^7", "a =>");
        CHECK.due("nodes", talk.x.size(0), 10);
        CHECK.due("edges", talk.x.size(1), 15);
        int b = 1;
        edge(talk, 0, 0, 1, b, 4);
        edge(talk, 1, 1, 2, b + 1, 10);
        edge(talk, 2, 2, 4, b + 2, 10);
        edge(talk, 3, 0, 4, b + 3, 10);
        edge(talk, 4, 0, 3, b + 4, 7);
        edge(talk, 5, 3, 4, b + 5, 10);
        edge(talk, 6, 0, 4, NONE, 10);
        edge(talk, 7, 4, 5, 7, 10);
        edge(talk, 8, 5, 6, b, 4);
        edge(talk, 13, 8, 9, b + 5, 10);
        edge(talk, 14, 5, 9, NONE, 10);
    }

    private static void withoutWord() {
        Talk talk = Talk.graph("a a", "a =>");
        CHECK.due("nodes", talk.x.size(0), 3);
        CHECK.due("edges", talk.x.size(1), 2);
        CHECK.due("sets", talk.x.size(3), 1);
        CHECK.due("positions", talk.x.size(4), 0);
        edge(talk, 0, 0, 1, NONE, 10);
        edge(talk, 1, 1, 2, NONE, 10);
        match(talk, 1, 1, 1, 0, 1, 1);
    }

    private static void emptyInput() {
        Talk talk = Talk.graph("a b", "a, c");
        talk.input("");
        CHECK.due("graph of nothing", talk.x.graph(), 1);
        int[] due = {1, 0, 0, 1, 0};
        for (int what = 0; what < 5; what++) {
            CHECK.due("size " + what, talk.x.size(what), due[what]);
        }
    }

    private static void sets() {
        CHECK.due("one way", Talk.graph("a b c").x.size(3), 4);
        CHECK.due("the same first word", Talk.graph("a", "a => b c, b d, b e").x.size(3), 3);
        CHECK.due("two ends", Talk.graph("a", "a => b, b c").x.size(3), 3);
        CHECK.due("without a word", Talk.graph("a b", "a => c", "a =>", "b => c", "b =>").x.size(3), 3);
        CHECK.due("other nodes, the same word", Talk.graph("a", "a => b c, d c").x.size(3), 4);
    }

    private static void mostSets() {
        Talk talk = new Talk();
        talk.rule(WIDE);
        talk.rule("b => b1 b c d, b2 b c d, b3 b c d, b4 b c d, b5 b c d, b6 b c d, b7 b c d, b8 b c");
        talk.x.reload();
        talk.input("a ".repeat(11) + "b");
        CHECK.due("300 sets", talk.x.graph(), 300);
        CHECK.due("sets", talk.x.size(3), 300);
        CHECK.due("phrases", talk.x.phrases(), 1L << 36);
        talk.x.reload();
        talk.input("a ".repeat(12));
        CHECK.due("301 sets", talk.x.graph(), FULL);
        int[] due = {300, 11 * 32 + 31, 12, 300, 48};
        for (int what = 0; what < 5; what++) {
            CHECK.due("size " + what + " is as it was", talk.x.size(what), due[what]);
        }
        CHECK.due("the version is as it was", talk.x.told(8), 1);
        CHECK.due("phrases are as they were", talk.x.phrases(), 1L << 36);
        CHECK.due("the input is the new one", talk.x.told(6), 12);
        talk.input("a ".repeat(16));
        CHECK.due("401 sets", talk.x.graph(), FULL);
        talk.input("a b");
        CHECK.due("a graph behind refused ones", talk.x.graph(), 50);
        CHECK.due("its version", talk.x.told(8), 2);
    }

    private static void mostNodes() {
        String wide = "a => x y z p, x y z q, x y z r, x y z s, x y z t, x y z u, x y z v, x y z w";
        Talk talk = Talk.graph("a ".repeat(16), wide);
        CHECK.due("nodes", talk.x.size(0), 401);
        CHECK.due("edges", talk.x.size(1), 512);
        CHECK.due("sets", talk.x.size(3), 65);
        CHECK.due("positions", talk.x.size(4), 64);
        CHECK.due("phrases", talk.x.phrases(), 1L << 48);
        CHECK.due("the last edge", talk.x.edge(511, 1), 400);
        CHECK.due("rows besides", talk.x.rows(2), 0);
        CHECK.due("weight", talk.x.weight((1L << 48) - 1), 10000000000000000L);
        CHECK.due("heaviest", talk.x.heaviest(), 0);
        CHECK.due("the last word", talk.x.phrase((1L << 48) - 1, 63), talk.x.position(63, 7));
    }

    private static void graphStaysAsItWas() {
        Talk talk = Talk.graph("a b", "a, c d");
        talk.input("b b b");
        CHECK.due("matches", talk.x.size(2), 2);
        talk.x.fresh();
        talk.x.reload();
        CHECK.due("edges", talk.x.size(1), 4);
        CHECK.due("left of then", talk.x.match(0, 2), 0);
        CHECK.due("phrases", talk.x.phrases(), 2);
        CHECK.due("version of then", talk.x.told(8), 1);
        CHECK.due("graph", talk.x.graph(), 4);
        CHECK.due("version", talk.x.told(8), 2);
    }

    private static void wrongNumbers() {
        Talk talk = Talk.graph("a b");
        int[] wrong = {Integer.MIN_VALUE, -1, Integer.MAX_VALUE};
        for (int one : wrong) {
            CHECK.due("size", talk.x.size(one), BAD);
            CHECK.due("match", talk.x.match(one, 0), BAD);
            CHECK.due("match what", talk.x.match(0, one), BAD);
            CHECK.due("edge", talk.x.edge(one, 0), BAD);
            CHECK.due("edge what", talk.x.edge(0, one), BAD);
            CHECK.due("longest", talk.x.longest(one), BAD);
        }
        CHECK.due("size 5", talk.x.size(5), BAD);
        CHECK.due("match 2", talk.x.match(2, 0), BAD);
        CHECK.due("match 0 5", talk.x.match(0, 5), BAD);
        CHECK.due("edge 2", talk.x.edge(2, 0), BAD);
        CHECK.due("edge 0 4", talk.x.edge(0, 4), BAD);
    }
}
