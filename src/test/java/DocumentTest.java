/** Promises 25 to 28: document, hits, hit, hitWeight. */
public final class DocumentTest {
    private static final int BAD = -1;
    private static final long TENTH = 1000000000000000L;
    private static final Check CHECK = new Check("document");

    public static void main(String[] args) {
        document();
        hits();
        weightOfShorter();
        phraseWithoutWord();
        documentAsItIs();
        wrongNumbers();
        CHECK.end();
    }

    private static void document() {
        Talk talk = new Talk();
        CHECK.due("document", talk.document(" a b  a "), 3);
        CHECK.due("words", talk.x.told(1), 2);
        CHECK.due("40 words", talk.document("a ".repeat(40)), 40);
        CHECK.due("41 words", talk.document("a ".repeat(40) + " q ="), -10 - 81);
        CHECK.due("it stays", talk.x.told(7), 40);
        CHECK.due("no new word", talk.x.told(1), 2);
        CHECK.due("a comma", talk.document("a,b"), -11);
        CHECK.due("half an arrow", talk.document("="), -10);
        CHECK.due("it stays", talk.x.told(7), 40);
        CHECK.due("nothing", talk.document(""), 0);
        CHECK.due("told", talk.x.told(7), 0);
    }

    private static void hit(Talk talk, int k, int place, int longest, int phrases, long weight) {
        CHECK.due("place of hit " + k, talk.x.hit(k, 0), place);
        CHECK.due("longest of hit " + k, talk.x.hit(k, 1), longest);
        CHECK.due("phrases of hit " + k, talk.x.hit(k, 2), phrases);
        CHECK.due("weight of hit " + k, talk.x.hitWeight(k), weight);
    }

    private static void hits() {
        Talk talk = Talk.graph("a b", "a, c d^5, c^2", "b, d b^8");
        // a b, a d b (8), c b (2), c d b (5 by c d b, or 2 * 8 by c, d b), c d d b (5 * 8)
        CHECK.due("no document", talk.x.hits(), 0);
        talk.document("a b c d b q c d d b a d a b");
        CHECK.due("hits", talk.x.hits(), 4);
        hit(talk, 0, 0, 2, 1, 10 * TENTH);
        hit(talk, 1, 2, 3, 1, 5 * TENTH);
        hit(talk, 2, 6, 4, 1, 4 * TENTH);
        hit(talk, 3, 12, 2, 1, 10 * TENTH);
        CHECK.due("hit 4", talk.x.hit(4, 0), BAD);
        CHECK.due("weight of hit 4", talk.x.hitWeight(4), BAD);
        Talk ends = Talk.graph("a", "a => b, b c d");
        ends.document("b c");
        CHECK.due("one may end ahead of another's end", ends.x.hits(), 1);
        hit(ends, 0, 0, 1, 1, 10 * TENTH);
    }

    private static void weightOfShorter() {
        Talk talk = Talk.graph("a", "a => b^2, b c^9, b c b^4, b c b c^3");
        talk.document("b c b c b q b c");
        CHECK.due("hits", talk.x.hits(), 4);
        hit(talk, 0, 0, 4, 4, 9 * TENTH);
        hit(talk, 1, 2, 3, 3, 9 * TENTH);
        hit(talk, 2, 4, 1, 1, 2 * TENTH);
        hit(talk, 3, 6, 2, 2, 9 * TENTH);
    }

    private static void phraseWithoutWord() {
        Talk talk = Talk.graph("a", "a => b^3, b b^4", "a =>");
        CHECK.due("phrases", talk.x.phrases(), 3);
        talk.document("c b b c b");
        CHECK.due("hits", talk.x.hits(), 3);
        hit(talk, 0, 1, 2, 2, 4 * TENTH);
        hit(talk, 1, 2, 1, 1, 3 * TENTH);
        hit(talk, 2, 4, 1, 1, 3 * TENTH);
        Talk none = Talk.graph("a", "a =>");
        none.document("a a a");
        CHECK.due("only a phrase without a word", none.x.hits(), 0);
        CHECK.due("hit 0", none.x.hit(0, 0), BAD);
    }

    private static void documentAsItIs() {
        Talk talk = Talk.graph("a", "a, b^6");
        talk.document("b b a");
        CHECK.due("hits", talk.x.hits(), 3);
        talk.document("c");
        CHECK.due("none", talk.x.hits(), 0);
        talk.document("c b");
        CHECK.due("one", talk.x.hits(), 1);
        talk.input("c");
        CHECK.due("by the graph of then", talk.x.hits(), 1);
        hit(talk, 0, 1, 1, 1, 6 * TENTH);
        talk.x.graph();
        CHECK.due("by the new graph", talk.x.hits(), 1);
        hit(talk, 0, 0, 1, 1, 10 * TENTH);
        Talk full = Talk.graph("a ".repeat(16), "a");
        full.document("a ".repeat(40));
        CHECK.due("40 words", full.x.hits(), 25);
        hit(full, 24, 24, 16, 1, 10 * TENTH);
    }

    private static void wrongNumbers() {
        Talk talk = Talk.graph("a");
        talk.document("a a");
        int[] wrong = {Integer.MIN_VALUE, -1, 2, Integer.MAX_VALUE};
        for (int k : wrong) {
            CHECK.due("hit " + k, talk.x.hit(k, 0), BAD);
            CHECK.due("hitWeight " + k, talk.x.hitWeight(k), BAD);
        }
        int[] wrongKinds = {Integer.MIN_VALUE, -1, 3, Integer.MAX_VALUE};
        for (int what : wrongKinds) {
            CHECK.due("hit 0 " + what, talk.x.hit(0, what), BAD);
        }
    }
}
