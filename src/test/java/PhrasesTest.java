/** Promises 17 to 21: phrases, phrase, weight, which, heaviest. */
public final class PhrasesTest {
    private static final int BAD = -1;
    private static final int NONE = -2;
    private static final long WHOLE = 10000000000000000L;
    private static final Check CHECK = new Check("phrases");

    public static void main(String[] args) {
        order();
        eachOnce();
        weights();
        leastWeight();
        heaviest();
        which();
        whichGivesNoNumbers();
        many();
        manyWithGaps();
        wrongNumbers();
        CHECK.end();
    }

    private static void phrases(Talk talk, String... due) {
        CHECK.due("phrases", talk.x.phrases(), due.length);
        for (int k = 0; k < due.length; k++) {
            CHECK.holds("phrase " + k + " is " + talk.phrase(k) + ", due is " + due[k], due[k].equals(talk.phrase(k)));
            CHECK.due("which " + due[k], talk.which(due[k]), k);
        }
    }

    private static void order() {
        // z is word 0 here: the order is that of numbers, not of letters.
        phrases(Talk.graph("z y", "z, a b, a, z z", "y, q"),
                "z z y", "z z q", "z y", "z q", "a b y", "a b q", "a y", "a q");
        phrases(Talk.graph("a b", "a => c", "a =>", "b => c", "b =>"), "", "c", "c c");
        phrases(Talk.graph(""), "");
        phrases(Talk.graph("a a"), "a a");
        phrases(Talk.graph("a", "a => b c d e, b c d, b c, b", "a =>"), "", "b", "b c", "b c d", "b c d e");
    }

    private static void eachOnce() {
        phrases(Talk.graph("a a", "a => b, b b, b b b"), "b b", "b b b", "b b b b", "b b b b b", "b b b b b b");
        phrases(Talk.graph("a c", "a => x, x y", "c => y z, z"), "x y y z", "x y z", "x z");
    }

    private static void weights() {
        Talk talk = Talk.graph("a a", "a => b^5, b b^3, b b b^2");
        long[] due = {25, 15, 10, 6, 4};
        for (int k = 0; k < due.length; k++) {
            CHECK.due("weight " + k, talk.x.weight(k), due[k] * (WHOLE / 100));
        }
        Talk two = Talk.graph("a c", "a => x^4, x y^2", "c => y z^5, z^9");
        CHECK.due("x y y z", two.x.weight(0), WHOLE / 100 * 10);
        CHECK.due("x y z, the greater of two ways", two.x.weight(1), WHOLE / 100 * 20);
        CHECK.due("x z", two.x.weight(2), WHOLE / 100 * 36);
        CHECK.due("of nothing", Talk.graph("").x.weight(0), WHOLE);
    }

    private static void leastWeight() {
        Talk talk = Talk.graph("a ".repeat(16), "a => b^1, c d e f^3");
        CHECK.due("phrases", talk.x.phrases(), 65536);
        CHECK.due("the least", talk.x.weight(0), 1);
        long threes = 1;
        for (int i = 0; i < 16; i++) {
            threes *= 3;
        }
        CHECK.due("the greatest", talk.x.weight(65535), threes);
        CHECK.due("one of them", talk.x.weight(1), 3);
        CHECK.due("heaviest", talk.x.heaviest(), 65535);
    }

    private static void heaviest() {
        CHECK.due("the least of several", Talk.graph("a", "a => b^3, c^7, d^7").x.heaviest(), 1);
        CHECK.due("one begins the other", Talk.graph("a", "a => b c^7, b^7, d^7").x.heaviest(), 0);
        CHECK.due("without a word", Talk.graph("a", "a => b, c", "a =>").x.heaviest(), 0);
        CHECK.due("of nothing", Talk.graph("").x.heaviest(), 0);
        // "x y z" is there by a light way and by a heavy one.
        CHECK.due("by the heavier way", Talk.graph("a c", "a => x^2, x y^9", "c => y z^2, z^9, q^1").x.heaviest(), 1);
        Talk talk = Talk.graph("a a a", "a => b^5, c^9, d^9");
        CHECK.due("c c c", talk.x.heaviest(), 13);
        CHECK.due("its weight", talk.x.weight(13), 729 * (WHOLE / 1000));
    }

    private static void which() {
        Talk talk = Talk.graph("a b", "a, c d^5", "b =>");
        CHECK.due("a", talk.which("a"), 0);
        CHECK.due("c d", talk.which("  c   d "), 1);
        CHECK.due("nothing", talk.which(""), NONE);
        CHECK.due("c", talk.which("c"), NONE);
        CHECK.due("a b", talk.which("a b"), NONE);
        CHECK.due("c d a", talk.which("c d a"), NONE);
        CHECK.due("a long row", talk.which("a ".repeat(104)), NONE);
        CHECK.due("a comma", talk.which("a,"), -11);
        CHECK.due("an arrow behind a word that is none", talk.which("q =>"), -12);
        CHECK.due("tenths", talk.which("c d^5"), -13);
        CHECK.due("13 bytes", talk.which("aaaaaaaaaaaaa"), -10);
        CHECK.due("the text", talk.x.told(0), 0);
        Talk many = Talk.graph("a ".repeat(16), "a => b b b b");
        CHECK.due("64 words", many.which("b ".repeat(64)), 0);
        CHECK.due("65 words", many.which("b ".repeat(65)), NONE);
    }

    private static void whichGivesNoNumbers() {
        Talk talk = Talk.graph("a");
        CHECK.due("a new word", talk.which("b a"), NONE);
        CHECK.due("words", talk.x.told(1), 1);
        talk.input("c");
        CHECK.due("the next word is c", talk.x.word(1, 0), 'c');
    }

    private static void many() {
        Talk talk = Talk.graph("a ".repeat(16), "a => b,c,d,e,f,g,h,i");
        long all = 1L << 48;
        CHECK.due("phrases", talk.x.phrases(), all);
        long[] some = {0, 1, 7, 8, 123456789012345L, all / 3, all - 1};
        for (long k : some) {
            StringBuilder text = new StringBuilder();
            for (int i = 0; i < 16; i++) {
                int digit = (int) (k >> 3 * (15 - i) & 7);
                CHECK.due("word " + i + " of phrase " + k, talk.x.phrase(k, i), 1 + digit);
                text.append((char) ('b' + digit)).append(' ');
            }
            CHECK.due("which " + text, talk.which(text.toString()), k);
            CHECK.due("weight " + k, talk.x.weight(k), WHOLE);
        }
        CHECK.due("phrase behind the last", talk.x.phrase(all, -1), BAD);
    }

    /** 112 words go out of the first set; each phrase leaves out what it likes. */
    private static void manyWithGaps() {
        Talk talk = new Talk();
        StringBuilder input = new StringBuilder();
        for (char one = 'a'; one < 'q'; one += 2) {
            char two = (char) (one + 1);
            talk.rule("l" + one + " => w1,w2,w3,w4,w5,w6,w7".replace('w', one));
            talk.rule("l" + two + " => w1,w2,w3,w4,w5,w6,w7".replace('w', two));
            talk.rule("l" + one + ", l" + two + " =>");
            input.append("l" + one + " l" + two + " ");
        }
        CHECK.due("rules", talk.x.told(2), 24);
        talk.x.reload();
        CHECK.due("words", talk.x.told(1), 128);
        talk.input(input.toString());
        CHECK.due("nodes", talk.x.graph(), 17);
        CHECK.due("sets", talk.x.size(3), 17);
        long all = 1L << 48;
        CHECK.due("phrases", talk.x.phrases(), all);
        long sevens = 1;
        for (int i = 0; i < 16; i++) {
            sevens *= 7;
        }
        CHECK.due("flat", talk.x.rows(0), sevens);
        CHECK.due("lost", talk.x.rows(1), all - sevens);
        CHECK.due("besides", talk.x.rows(2), 0);
        long[] some = {0, 1, 2, 7, 8, 1000003L, all / 5, all - 2, all - 1};
        for (long k : some) {
            CHECK.due("which phrase " + k, talk.which(talk.phrase(k)), k);
        }
        CHECK.due("phrase 0", talk.x.phrase(0, -1), 0);
        CHECK.due("the last row of flat", talk.x.row(0, sevens - 1, 15), talk.x.position(15, 6));
    }

    private static void wrongNumbers() {
        Talk talk = Talk.graph("a b");
        long[] wrong = {Long.MIN_VALUE, -1, 1, 1L << 32, Long.MAX_VALUE};
        for (long k : wrong) {
            CHECK.due("phrase " + k, talk.x.phrase(k, 0), BAD);
            CHECK.due("phrase " + k, talk.x.phrase(k, -1), BAD);
            CHECK.due("weight " + k, talk.x.weight(k), BAD);
        }
        int[] wrongWords = {Integer.MIN_VALUE, -2, 2, Integer.MAX_VALUE};
        for (int i : wrongWords) {
            CHECK.due("phrase 0 " + i, talk.x.phrase(0, i), BAD);
        }
        CHECK.due("phrase 0", talk.x.phrase(0, 1), 1);
        CHECK.due("its words", talk.x.phrase(0, -1), 2);
    }
}
