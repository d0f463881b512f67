/** Promises 6 to 10: rule, fresh, reload, left, alternative. */
public final class RulesTest {
    private static final int BAD = -1;
    private static final int FULL = -3;
    private static final Check CHECK = new Check("rules");

    public static void main(String[] args) {
        withoutArrow();
        withArrow();
        byBoth();
        sameTwice();
        goodTexts();
        faults();
        refusedChangesNothing();
        mostRules();
        mostLefts();
        mostAlternatives();
        mostWords();
        versions();
        goesRound();
        wrongNumbers();
        CHECK.end();
    }

    private static void left(Talk talk, int l, String left, String alternatives) {
        CHECK.holds("left " + l + " is " + talk.left(l) + ", due is " + left, left.equals(talk.left(l)));
        String got = talk.alternatives(l);
        CHECK.holds("left " + l + " has " + got + ", due is " + alternatives, alternatives.equals(got));
    }

    private static void withoutArrow() {
        Talk talk = new Talk();
        CHECK.due("rule", talk.rule("big, very large^7 , huge ^ 10"), 1);
        talk.x.reload();
        CHECK.due("lefts", talk.x.told(4), 3);
        left(talk, 0, "big", "big^10, very large^7, huge^10");
        left(talk, 1, "very large", "big^10, very large^7, huge^10");
        left(talk, 2, "huge", "big^10, very large^7, huge^10");
        CHECK.due("tenths have no numbers", talk.x.told(1), 4);
    }

    private static void withArrow() {
        Talk talk = new Talk();
        CHECK.due("rule", talk.rule("a^3,b b^4=>c d e f^1,g"), 1);
        CHECK.due("rule without a side behind", talk.both("h, i^2 =>"), 2);
        talk.x.reload();
        CHECK.due("lefts", talk.x.told(4), 4);
        left(talk, 0, "a", "c d e f^1, g^10");
        left(talk, 1, "b b", "c d e f^1, g^10");
        left(talk, 2, "h", "^10");
        left(talk, 3, "i", "^10");
    }

    private static void byBoth() {
        Talk talk = new Talk();
        talk.both("a^3, b => c^5, a");
        talk.x.reload();
        CHECK.due("lefts", talk.x.told(4), 3);
        left(talk, 0, "a", "c^5, a^10, b^10");
        left(talk, 1, "b", "c^5, a^10");
        left(talk, 2, "c", "a^3, b^10");
        Talk none = new Talk();
        none.both("a, b");
        none.x.reload();
        left(none, 0, "a", "a^10, b^10");
        CHECK.due("both is nothing without =>", none.x.told(4), 2);
    }

    private static void sameTwice() {
        Talk talk = new Talk();
        talk.rule("a^2, b^9, a^4, a^3");
        talk.rule("c, a => b^8, d^1, b^10, d^6, d^5");
        talk.rule("a =>");
        talk.rule("a =>");
        talk.x.reload();
        CHECK.due("lefts", talk.x.told(4), 3);
        left(talk, 0, "a", "a^4, b^10, d^6, ^10");
        left(talk, 1, "b", "a^4, b^9");
        left(talk, 2, "c", "b^10, d^6");
        CHECK.due("each is a rule", talk.x.told(2), 4);
    }

    private static void goodTexts() {
        String[] good = {"a", "  a  ", "a=>", "a => ", "a^1", "a^10=>b^9", "abcdefghijkl", "10", "a b c d",
            "1^1", "a,b,c,d,e,f,g,h", "a,b,c,d,e,f,g,h=>i,j,k,l,m,n,o,p", "a b c d^10,e", "a ^ 5 => ", "a=>a"};
        for (String text : good) {
            CHECK.due("rule " + text, new Talk().rule(text), 1);
        }
        Talk longest = new Talk();
        CHECK.due("a text of 208 bytes", longest.rule(" ".repeat(196) + "abcdefghijkl"), 1);
        CHECK.due("its word", longest.x.word(0, -1), 12);
    }

    private static void faults() {
        fault("", 0);
        fault("   ", 3);
        fault("a,", 2);
        fault("a, ", 3);
        fault(",a", 0);
        fault("=>", 0);
        fault(" => a", 1);
        fault("^5", 0);
        fault("a,,b", 2);
        fault("a , => b", 4);
        fault("a => , b", 5);
        fault("a => b,", 7);
        fault("a => => b", 5);
        fault("a => b => c", 7);
        fault("a => ^5", 5);
        fault("a^", 2);
        fault("a^  ", 4);
        fault("a^0", 2);
        fault("a^11", 2);
        fault("a^01", 2);
        fault("a^1 0", 4);
        fault("a^x", 2);
        fault("a^5x", 2);
        fault("a^,", 2);
        fault("a^=>", 2);
        fault("a^^5", 2);
        fault("a^5^5", 3);
        fault("a^5 b", 4);
        fault("a^100", 2);
        fault("a^1234567890123", 2);
        fault("a =", 2);
        fault("a = >", 2);
        fault("a >", 2);
        fault("a =>>", 4);
        fault("a ==> b", 2);
        fault("a B", 2);
        fault("a.", 1);
        fault("a b c d e", 8);
        fault("a => a b c d e f", 13);
        fault("a b c d E", 8);
        fault("abcdefghijklm", 0);
        fault("a, abcdefghijklm", 3);
        fault("a abcdefghijklm B", 2);
        fault("a,b,c,d,e,f,g,h,i", 16);
        fault("a,b,c,d,e,f,g,h,i => j", 16);
        fault("a,b,c,d,e,f,g,h,", 16);
        fault("a,b,c,d,e,f,g,h,=>", 16);
        fault("a=>a,b,c,d,e,f,g,h,i", 19);
        fault("a,b,c,d,e,f,g,h=>a,b,c,d,e,f,g,h,  i j k l m", 35);
        fault("a{", 1);
        fault("a~", 1);
        fault(" ".repeat(207) + "=", 207);
        fault(" ".repeat(208), 208);
        fault(",".repeat(208), 0);
        fault("=>".repeat(104), 0);
        fault("a " + "z".repeat(206), 2);
        fault("a,".repeat(7) + "a" + " ".repeat(192) + ",", 208);
    }

    private static void fault(String text, int place) {
        Talk talk = new Talk();
        CHECK.due("rule " + text, talk.rule(text), -10 - place);
        CHECK.due("rules behind the fault of " + text, talk.x.told(2), 0);
        CHECK.due("words behind the fault of " + text, talk.x.told(1), 0);
        CHECK.due("text behind the fault of " + text, talk.x.told(0), 0);
        CHECK.due("both: " + text, talk.both(text), -10 - place);
    }

    private static void refusedChangesNothing() {
        Talk talk = new Talk();
        talk.rule("a => b^5, c d");
        talk.x.reload();
        String before = talk.alternatives(0);
        CHECK.due("a fault", talk.rule("a => e, b^10, , "), -24);
        CHECK.due("full", talk.rule("a, x => b^10, c1, c2, c3, c4, c5, c6, c7"), FULL);
        CHECK.due("text", talk.x.told(0), 0);
        CHECK.due("words", talk.x.told(1), 4);
        CHECK.due("rules", talk.x.told(2), 1);
        CHECK.due("lefts", talk.x.told(3), 1);
        talk.x.reload();
        CHECK.holds("alternatives", before.equals(talk.alternatives(0)));
        talk.rule("c7");
        CHECK.due("the next number", talk.x.told(1), 5);
        CHECK.due("the next word", talk.x.word(4, 1), '7');
    }

    private static void mostRules() {
        Talk talk = new Talk();
        for (int i = 1; i <= 24; i++) {
            CHECK.due("rule " + i, talk.rule("a"), i);
        }
        CHECK.due("rule 25", talk.rule("a"), FULL);
        CHECK.due("a fault goes ahead of full", talk.rule("a ="), -12);
        CHECK.due("rules", talk.x.told(2), 24);
        CHECK.due("fresh", talk.x.fresh(), 24);
        CHECK.due("fresh again", talk.x.fresh(), 0);
        CHECK.due("rule 1 of a new draft", talk.rule("a"), 1);
    }

    private static void mostLefts() {
        Talk talk = new Talk();
        for (int i = 0; i < 7; i++) {
            talk.rule("x0,x1,x2,x3,x4,x5,x6,x7 => y".replace("x", "x" + i));
        }
        CHECK.due("56 lefts", talk.x.told(3), 56);
        CHECK.due("5 more", talk.rule("a,b,c,d,e => y"), FULL);
        CHECK.due("5 more by both", talk.both("a,b,c,d => e"), FULL);
        CHECK.due("4 more by both", talk.both("a,b,x00 => e,c"), 8);
        CHECK.due("60 lefts", talk.x.told(3), 60);
        CHECK.due("one more", talk.rule("q =>"), FULL);
        CHECK.due("the same left", talk.rule("x67 =>"), 9);
        talk.x.reload();
        CHECK.due("60 in force", talk.x.told(4), 60);
        left(talk, 55, "x67", "y^10, ^10");
        left(talk, 59, "c", "a^10, b^10, x00^10");
        CHECK.due("left 60", talk.x.left(60, -1), BAD);
        CHECK.due("left 0 goes round, by e", talk.x.left(0, -3), 1);
        CHECK.due("left 55 does not", talk.x.left(55, -3), 0);
        CHECK.due("left 59 goes round", talk.x.left(59, -3), 1);
    }

    private static void mostAlternatives() {
        Talk talk = new Talk();
        talk.rule("a => b,c,d,e,f,g,h,i");
        CHECK.due("a ninth", talk.rule("a =>"), FULL);
        CHECK.due("a ninth of two", talk.rule("z, a => j"), FULL);
        CHECK.due("the same ones", talk.rule("a => i^1, b"), 2);
        CHECK.due("a ninth by both", talk.both("j => a, k"), FULL);
        CHECK.due("a ninth by both", talk.both("k => a"), FULL);
        talk.x.reload();
        left(talk, 0, "a", "b^10, c^10, d^10, e^10, f^10, g^10, h^10, i^10");
    }

    private static void mostWords() {
        Talk talk = new Talk();
        for (int i = 0; i < 24; i++) {
            String eight = "w0 w1 w2 w3 w4 w5 w6 w7".replace("w", "w" + i + "x");
            talk.document(eight);
        }
        talk.document("v0 v1 v2 v3 v4 v5");
        CHECK.due("198 words", talk.x.told(1), 198);
        CHECK.due("three more", talk.rule("a, b, c"), FULL);
        CHECK.due("three more in a row", talk.input("a b c"), FULL);
        CHECK.due("three more in a document", talk.document("a b c"), FULL);
        CHECK.due("three more asked", talk.which("a b c"), -2);
        CHECK.due("198 words still", talk.x.told(1), 198);
        CHECK.due("the document stays", talk.x.told(7), 6);
        CHECK.due("two more, one twice", talk.rule("b, a^5, b"), 1);
        CHECK.due("200 words", talk.x.told(1), 200);
        CHECK.due("word 199", talk.x.word(199, 0), 'a');
        CHECK.due("word 200", talk.x.word(200, 0), BAD);
        CHECK.due("one more", talk.rule("z"), FULL);
        CHECK.due("a fault goes ahead of full", talk.input("z ,"), -12);
        CHECK.due("known ones", talk.both("w0x0 w23x7 v5 a => b"), 2);
        talk.x.reload();
        left(talk, 2, "w0x0 w23x7 v5 a", "b^10");
        left(talk, 0, "b", "b^10, a^5, w0x0 w23x7 v5 a^10");
        CHECK.due("number 199", talk.x.left(2, 3), 199);
    }

    private static void versions() {
        Talk talk = new Talk();
        CHECK.due("reload of nothing", talk.x.reload(), 1);
        talk.rule("a => b");
        CHECK.due("not yet in force", talk.x.left(0, -1), BAD);
        CHECK.due("reload", talk.x.reload(), 2);
        CHECK.due("in force", talk.x.left(0, -1), 1);
        CHECK.due("the draft stays", talk.x.told(2), 1);
        talk.rule("a => c");
        CHECK.due("in force is as it was", talk.x.left(0, -2), 1);
        CHECK.due("fresh", talk.x.fresh(), 2);
        CHECK.due("in force is as it was", talk.x.left(0, -2), 1);
        CHECK.due("words stay", talk.x.told(1), 3);
        talk.rule("c => a");
        CHECK.due("reload", talk.x.reload(), 3);
        left(talk, 0, "c", "a^10");
        CHECK.due("one left", talk.x.told(4), 1);
        talk.x.fresh();
        CHECK.due("reload of nothing", talk.x.reload(), 4);
        CHECK.due("nothing in force", talk.x.left(0, -3), BAD);
    }

    private static void goesRound() {
        round("a", "0");
        round("a, b", "11");
        round("a => a", "0");
        round("a => a b", "1");
        round("a b => b a b c", "1");
        round("a b => a c b", "0");
        round("a b => a b", "0");
        round("a b c d => x a b c", "0");
        round("a =>", "0");
        round("a => b; b => c; c => d", "000");
        round("a => b; b => c; c => x a y", "111");
        round("a => x b; b => c; c => b", "011");
        round("x => a; a => b; b => a; b => z; z => q", "0110");
        round("a => b c; b c => a; c => d", "110");
        round("a => b c d; c d => e; e => q a; b => e", "1111");
        round("a b => c d; d => e; c d => f", "000");
        round("d c b a => a d c b; c b => d c b a", "11");
        round("d c b a => a d c b; c b => c b", "00");
    }

    private static void round(String rules, String due) {
        Talk talk = new Talk();
        for (String rule : rules.split(";")) {
            talk.rule(rule);
        }
        CHECK.due("nothing in force", talk.x.left(0, -3), BAD);
        talk.x.reload();
        CHECK.due("lefts of " + rules, talk.x.told(4), due.length());
        for (int l = 0; l < due.length(); l++) {
            CHECK.due("round: left " + l + " of " + rules, talk.x.left(l, -3), due.charAt(l) - '0');
        }
        talk.x.fresh();
        talk.rule("a, b");
        for (int l = 0; l < due.length(); l++) {
            CHECK.due("round by what is in force", talk.x.left(l, -3), due.charAt(l) - '0');
        }
        talk.x.reload();
        CHECK.due("round by the new version", talk.x.left(0, -3), 1);
    }

    private static void wrongNumbers() {
        Talk talk = new Talk();
        talk.rule("a b => c, d e f^4");
        talk.rule("g =>");
        talk.x.reload();
        SynonymGraphs x = talk.x;
        int[][] bad = {{-1, 0}, {2, 0}, {2, -1}, {0, 2}, {0, -4}, {1, 1}, {Integer.MIN_VALUE, 0},
            {Integer.MAX_VALUE, -1}, {0, Integer.MAX_VALUE}, {0, Integer.MIN_VALUE}};
        for (int[] one : bad) {
            CHECK.due("left " + one[0] + " " + one[1], x.left(one[0], one[1]), BAD);
        }
        CHECK.due("left", x.left(0, 1), 1);
        CHECK.due("words", x.left(0, -1), 2);
        CHECK.due("alternatives", x.left(0, -2), 2);
        int[][] bad3 = {{-1, 0, 0}, {2, 0, -1}, {0, -1, 0}, {0, 2, -1}, {0, 0, 1}, {0, 1, 3}, {0, 1, -3}, {1, 0, 0},
            {1, 1, -2}, {0, Integer.MAX_VALUE, 0}, {0, 0, Integer.MIN_VALUE}, {Integer.MAX_VALUE, 0, 0}};
        for (int[] one : bad3) {
            CHECK.due("alternative " + one[0] + " " + one[1] + " " + one[2], x.alternative(one[0], one[1], one[2]), BAD);
        }
        CHECK.due("alternative", x.alternative(0, 1, 2), 5);
        CHECK.due("words", x.alternative(0, 1, -1), 3);
        CHECK.due("tenths", x.alternative(0, 1, -2), 4);
        CHECK.due("no words", x.alternative(1, 0, -1), 0);
        CHECK.due("tenths of none", x.alternative(1, 0, -2), 10);
    }
}
