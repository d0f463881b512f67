import java.math.BigInteger;

/** Promises 22 to 24: position, rows, row. */
public final class FlatTest {
    private static final int BAD = -1;
    private static final long MOST_TOLD = 1000000000000000000L;
    private static final Check CHECK = new Check("flat");

    public static void main(String[] args) {
        positions();
        positionsSkipped();
        kinds();
        lostBeginsAnother();
        withoutPositions();
        farAboveTheMost();
        justTheMost();
        flatAboveButBesidesBelow();
        wrongNumbers();
        CHECK.end();
    }

    private static void rows(Talk talk, int kind, String... due) {
        CHECK.due("rows of kind " + kind, talk.x.rows(kind), due.length);
        for (int k = 0; k < due.length; k++) {
            String got = talk.row(kind, k);
            CHECK.holds("row " + k + " of kind " + kind + " is " + got + ", due is " + due[k], due[k].equals(got));
        }
        CHECK.due("the row behind", talk.x.row(kind, due.length, -1), BAD);
    }

    private static void position(Talk talk, int p, String due) {
        String got = talk.position(p);
        CHECK.holds("position " + p + " has " + got + ", due is " + due, due.equals(got));
    }

    private static void positions() {
        Talk talk = Talk.graph("z a y", "a => b c, z, c c, d");
        CHECK.due("positions", talk.x.size(4), 4);
        position(talk, 0, "z");
        position(talk, 1, "b c z d");
        position(talk, 2, "c");
        position(talk, 3, "y");
        CHECK.due("position 4", talk.x.position(4, -1), BAD);
    }

    private static void positionsSkipped() {
        Talk talk = Talk.graph("q a b r", "q =>", "a => x, y y y", "a =>", "b =>", "b => s");
        CHECK.due("positions", talk.x.size(4), 5);
        position(talk, 0, "x y");
        position(talk, 1, "y");
        position(talk, 2, "y");
        position(talk, 3, "s");
        position(talk, 4, "r");
    }

    private static void kinds() {
        Talk talk = Talk.graph("a b", "a => c d, e f, g", "b, h");
        rows(talk, 0, "c d b", "c d h", "c f b", "c f h", "e d b", "e d h", "e f b", "e f h", "g d b", "g d h",
                "g f b", "g f h");
        rows(talk, 1, "g b", "g h");
        rows(talk, 2, "c f b", "c f h", "e d b", "e d h", "g d b", "g d h", "g f b", "g f h");
        Talk one = Talk.graph("a b");
        rows(one, 0, "a b");
        rows(one, 1);
        rows(one, 2);
    }

    private static void lostBeginsAnother() {
        Talk talk = Talk.graph("a a", "a => b, b b", "a =>");
        rows(talk, 0, "b b b b");
        rows(talk, 1, "", "b", "b b", "b b b");
        rows(talk, 2);
        Talk two = Talk.graph("a c", "a => x, x y", "c => y z, z");
        rows(two, 0, "x y y z", "x y z z");
        rows(two, 1, "x y z", "x z");
        rows(two, 2, "x y z z");
    }

    private static void withoutPositions() {
        Talk talk = Talk.graph("a a", "a =>");
        rows(talk, 0, "");
        rows(talk, 1);
        rows(talk, 2);
        rows(Talk.graph(""), 0, "");
    }

    /** 8^44 rows, 8^11 of them phrases: block by block the same digit four times. */
    private static void farAboveTheMost() {
        String[] first = "b c d e f g h i".split(" ");
        StringBuilder rule = new StringBuilder("a => ");
        for (int i = 0; i < 8; i++) {
            rule.append(i == 0 ? "" : ",");
            for (int w = 0; w < 4; w++) {
                rule.append(w == 0 ? "" : " ").append(first[i]);
            }
        }
        Talk talk = Talk.graph("a ".repeat(11), rule.toString());
        CHECK.due("flat", talk.x.rows(0), MOST_TOLD);
        CHECK.due("lost", talk.x.rows(1), 0);
        CHECK.due("besides", talk.x.rows(2), MOST_TOLD);
        long[] some = {0, 1, 7, 8, 584, 585, 586, 4094, 4095, 123456789012345678L, MOST_TOLD - 1};
        for (long k : some) {
            // An object has 512 calls, too few for all rows.
            sameAsDigits(Talk.graph("a ".repeat(11), rule.toString()), 0, k, BigInteger.valueOf(k));
            sameAsDigits(Talk.graph("a ".repeat(11), rule.toString()), 2, k, besidesRank(k));
        }
        CHECK.due("row 10^18", talk.x.row(0, MOST_TOLD, -1), BAD);
        CHECK.due("row 10^18 besides", talk.x.row(2, MOST_TOLD, -1), BAD);
    }

    private static void sameAsDigits(Talk talk, int kind, long k, BigInteger rank) {
        CHECK.due("words of row " + k, talk.x.row(kind, k, -1), 44);
        for (int i = 0; i < 44; i++) {
            int digit = rank.shiftRight(3 * (43 - i)).intValue() & 7;
            CHECK.due("word " + i + " of row " + k + " of kind " + kind, talk.x.row(kind, k, i), 1 + digit);
        }
    }

    /** The rank among all rows of the row that has k ahead of it that are no phrase. */
    private static BigInteger besidesRank(long k) {
        BigInteger rank = BigInteger.valueOf(k);
        for (long phrase = 0; phraseRank(phrase).compareTo(rank) <= 0; phrase++) {
            rank = rank.add(BigInteger.ONE);
        }
        return rank;
    }

    private static BigInteger phraseRank(long phrase) {
        BigInteger rank = BigInteger.ZERO;
        for (int i = 10; i >= 0; i--) {
            long digit = phrase >> 3 * i & 7;
            rank = rank.shiftLeft(12).add(BigInteger.valueOf(digit * 585));
        }
        return rank;
    }

    private static void justTheMost() {
        // 9 matches of 5 * 5, and 6 of 8: 10^18 rows, of which 5^9 * 8^6 are phrases.
        String[] rules = {"a => b b, c c, d d, e e, f f", "g => h,i,j,k,l,m,n,o"};
        Talk talk = Talk.graph("a ".repeat(9) + "g ".repeat(6), rules);
        CHECK.due("flat", talk.x.rows(0), MOST_TOLD);
        CHECK.due("lost", talk.x.rows(1), 0);
        CHECK.due("besides", talk.x.rows(2), MOST_TOLD - 512000000000L);
        CHECK.due("phrases", talk.x.phrases(), 512000000000L);
        CHECK.due("the last row", talk.x.row(0, MOST_TOLD - 1, 23), talk.x.position(23, 7));
        CHECK.due("the last besides", talk.x.row(2, MOST_TOLD - 512000000001L, 17), talk.x.position(17, 3));
        CHECK.due("behind it", talk.x.row(2, MOST_TOLD - 512000000000L, 17), BAD);
        Talk more = Talk.graph("a ".repeat(9) + "g ".repeat(6) + "p", rules[0], rules[1], "p, q");
        CHECK.due("flat", more.x.rows(0), MOST_TOLD);
        CHECK.due("besides", more.x.rows(2), MOST_TOLD);
    }

    /** 14^14 * 9 * 10 rows, a little above 10^18; all 8^16 phrases are of them, which is more. */
    private static void flatAboveButBesidesBelow() {
        Talk talk = Talk.graph("a ".repeat(14) + "b c", "a => p x,q x,r x,s x,t x,u x,v x,p y",
                "b => p p,p q,p r,q p,q q,q r,r p,r q", "c => p x,q x,r x,s x,t x,p y,q y,r y");
        BigInteger flat = BigInteger.valueOf(14).pow(14).multiply(BigInteger.valueOf(90));
        CHECK.holds("above", flat.compareTo(BigInteger.valueOf(MOST_TOLD)) > 0);
        long besides = flat.subtract(BigInteger.valueOf(1L << 48)).longValueExact();
        CHECK.holds("below", besides < MOST_TOLD);
        CHECK.due("flat", talk.x.rows(0), MOST_TOLD);
        CHECK.due("lost", talk.x.rows(1), 0);
        CHECK.due("besides", talk.x.rows(2), besides);
        CHECK.due("the first word of the last", talk.x.row(2, besides - 1, 0), talk.x.position(0, 6));
        CHECK.due("the last word of the last", talk.x.row(2, besides - 1, 31), talk.x.position(31, 1));
        CHECK.due("behind it", talk.x.row(2, besides, 0), BAD);
    }

    private static void wrongNumbers() {
        Talk talk = Talk.graph("a b", "a => c, d e");
        int[] wrong = {Integer.MIN_VALUE, -1, 3, Integer.MAX_VALUE};
        for (int one : wrong) {
            CHECK.due("position", talk.x.position(one, -1), BAD);
            CHECK.due("rows", talk.x.rows(one), BAD);
            CHECK.due("row", talk.x.row(one, 0, -1), BAD);
        }
        CHECK.due("position 0 -2", talk.x.position(0, -2), BAD);
        CHECK.due("position 0 2", talk.x.position(0, 2), BAD);
        CHECK.due("position 0 1", talk.x.position(0, 1), 2);
        CHECK.due("row -1", talk.x.row(0, -1, 0), BAD);
        CHECK.due("row least", talk.x.row(1, Long.MIN_VALUE, 0), BAD);
        CHECK.due("row greatest", talk.x.row(2, Long.MAX_VALUE, 0), BAD);
        CHECK.due("row 0 -2", talk.x.row(0, 0, -2), BAD);
        CHECK.due("row 0 3", talk.x.row(0, 0, 3), BAD);
        CHECK.due("lost row 0 2", talk.x.row(1, 0, 2), BAD);
        CHECK.due("lost row 0 1", talk.x.row(1, 0, 1), 4);
    }
}
