import java.math.BigInteger;

/** Bounds of section 4, FLAT, LOST and BESIDES, and of promises 22 to 24. */
final class FlatBounds {
    private static final long MOST_TOLD = 1000000000000000000L;
    private static final BigInteger MOST = BigInteger.valueOf(MOST_TOLD);
    private final Bounds ask;

    FlatBounds(Bounds ask) {
        this.ask = ask;
    }

    void all() {
        places();
        positions();
        flat();
        lostAndBesides();
        numbered();
        countsUpTo1018();
        besidesUpTo1018();
        rowsOfGreatCounts();
        position();
        rows();
        row();
    }

    private void position(Talk talk, int p, String due) {
        ask.same("position " + p, talk.position(p), due);
    }

    private void rows(Talk talk, int kind, String... due) {
        ask.due("rows of kind " + kind, talk.x.rows(kind), due.length);
        for (int k = 0; k < due.length; k++) {
            ask.same("row " + k + " of kind " + kind, talk.row(kind, k), due[k]);
        }
        ask.due("the row behind", talk.x.row(kind, due.length, -1), Bounds.BAD);
    }

    private void places() {
        ask.sentence("FLAT: the PLACE of a NODE is how many WORDS the way from NODE 0 to it has that has the most.");
        Talk shortFirst = Talk.graph("a z", "a => b, c d e");
        ask.due("positions", shortFirst.x.size(4), 4);
        position(shortFirst, 3, "z");
        Talk longFirst = Talk.graph("a z", "a => c d e, b");
        ask.due("positions", longFirst.x.size(4), 4);
        position(longFirst, 3, "z");
        Talk skipped = Talk.graph("a z", "a => b", "a =>");
        position(skipped, 0, "b");
        position(skipped, 1, "z");
        Talk gone = Talk.graph("a z", "a =>");
        position(gone, 0, "z");
    }

    private void positions() {
        ask.sentence("POSITION p (0 ..) has the WORDS of all EDGES that go out from NODES of PLACE p; there are as many POSITIONS as THE LAST NODE's PLACE. (Each has some WORD.)");
        ask.due("of a new object", new Talk().x.size(4), 0);
        ask.due("of words that go", Talk.graph("a ".repeat(16), "a =>").x.size(4), 0);
        for (int words : new int[] {1, 2, 16}) {
            Talk talk = Talk.graph("a ".repeat(words));
            ask.due("positions of " + words, talk.x.size(4), words);
            position(talk, words - 1, "a");
        }
        Talk most = Talk.graph("a ".repeat(16), "a => b c d e, f", "a =>");
        ask.due("the most", most.x.size(4), 64);
        position(most, 0, "b f");
        position(most, 63, "e");
        ask.due("position 64", most.x.position(64, -1), Bounds.BAD);
        for (int p = 0; p < 64; p++) {
            ask.due("some word at " + p, most.x.position(p, -1), p % 4 == 0 ? 2 : 1);
        }
        Talk same = Talk.graph("a", "a => b c, b d, c, b");
        position(same, 0, "b c");
        position(same, 1, "c d");
    }

    private void flat() {
        ask.sentence("FLAT spells all rows that have, for each POSITION in order, one of its WORDS.");
        rows(new Talk(), 0, "");
        rows(Talk.graph("a a", "a =>"), 0, "");
        rows(Talk.graph("a"), 0, "a");
        rows(Talk.graph("a b", "a => c d, e", "b, f"), 0, "c d b", "c d f", "e d b", "e d f");
        Talk most = Talk.graph("a ".repeat(16), "a => b c d e");
        ask.due("rows of 64 positions", most.x.rows(0), 1);
        ask.due("words", most.x.row(0, 0, -1), 64);
        ask.due("the first", most.x.row(0, 0, 0), 1);
        ask.due("the last", most.x.row(0, 0, 63), 4);
        ask.due("behind it", most.x.row(0, 0, 64), Bounds.BAD);
    }

    private void lostAndBesides() {
        ask.sentence("LOST are the PHRASES that FLAT does not spell, BESIDES are rows that FLAT spells and that are no PHRASE.");
        Talk[] without = {new Talk(), Talk.graph("a b"), Talk.graph("a b", "a, c", "b, d"), Talk.graph("a", "a =>")};
        for (Talk talk : without) {
            rows(talk, 1);
            rows(talk, 2);
        }
        Talk both = Talk.graph("a b", "a => c d, e", "b, f");
        rows(both, 1, "e b", "e f");
        rows(both, 2, "e d b", "e d f");
        Talk nothing = Talk.graph("a", "a => b", "a =>");
        rows(nothing, 1, "");
        rows(nothing, 2);
        Talk besides = Talk.graph("a", "a => b c, d e");
        rows(besides, 1);
        rows(besides, 2, "b e", "d c");
        Talk byAnotherWay = Talk.graph("a c", "a => x, x y", "c => y z, z");
        rows(byAnotherWay, 1, "x y z", "x z");
        rows(byAnotherWay, 2, "x y z z");
        Talk most = Talk.graph("a ".repeat(16), "a => b,c,d,e,f,g,h", "a =>");
        long sevens = 1;
        for (int i = 0; i < 16; i++) {
            sevens *= 7;
        }
        ask.due("flat of 7 and none", most.x.rows(0), sevens);
        ask.due("lost", most.x.rows(1), most.x.phrases() - sevens);
        ask.due("besides", most.x.rows(2), 0);
        ask.due("the last that is lost", most.x.row(1, most.x.rows(1) - 1, -1), 15);
        ask.due("the one behind", most.x.row(1, most.x.rows(1), -1), Bounds.BAD);
    }

    private void numbered() {
        ask.sentence("Both are numbered in the order of PHRASES.");
        // z is number 0 here, so that the order of letters is another one.
        Talk talk = Talk.graph("p", "z => y x", "p => x z, y, z y, x, z x");
        rows(talk, 0, "z z", "z y", "z x", "y z", "y y", "y x", "x z", "x y", "x x");
        rows(talk, 1, "y", "x");
        rows(talk, 2, "z z", "y z", "y y", "y x", "x y", "x x");
        Talk begins = Talk.graph("a a", "a => b, b b", "a =>");
        rows(begins, 1, "", "b", "b b", "b b b");
    }

    /**
     * A graph whose positions have so many words, 8 at most: four positions a match. Word n has
     * number n; alternative j has at each position word j, or the last if there is none.
     */
    private static Talk sized(int... sizes) {
        Talk talk = new Talk();
        talk.document("0 1 2 3 4 5 6 7");
        StringBuilder input = new StringBuilder();
        for (int first = 0; first < sizes.length; first += 4) {
            StringBuilder name = new StringBuilder("m");
            for (int p = first; p < sizes.length && p < first + 4; p++) {
                name.append(sizes[p]);
            }
            if (input.indexOf(name + " ") < 0) {
                talk.rule(name + "=>" + alternatives(sizes, first));
            }
            input.append(name).append(' ');
        }
        talk.x.reload();
        talk.input(input.toString());
        talk.x.graph();
        return talk;
    }

    private static int most(int[] sizes, int first) {
        int most = 1;
        for (int p = first; p < sizes.length && p < first + 4; p++) {
            most = Math.max(most, sizes[p]);
        }
        return most;
    }

    private static String alternatives(int[] sizes, int first) {
        StringBuilder all = new StringBuilder();
        for (int j = 0; j < most(sizes, first); j++) {
            all.append(j == 0 ? "" : ",");
            for (int p = first; p < sizes.length && p < first + 4; p++) {
                all.append(p == first ? "" : " ").append(Math.min(j, sizes[p] - 1));
            }
        }
        return all.toString();
    }

    private static BigInteger product(int... sizes) {
        BigInteger all = BigInteger.ONE;
        for (int size : sizes) {
            all = all.multiply(BigInteger.valueOf(size));
        }
        return all;
    }

    private static BigInteger phrasesOf(int... sizes) {
        BigInteger all = BigInteger.ONE;
        for (int first = 0; first < sizes.length; first += 4) {
            all = all.multiply(BigInteger.valueOf(most(sizes, first)));
        }
        return all;
    }

    /** The rank of a phrase among the rows of FLAT. */
    private static BigInteger rankOf(BigInteger phrase, int... sizes) {
        BigInteger rank = BigInteger.ZERO;
        BigInteger rest = phrase;
        BigInteger behind = phrasesOf(sizes);
        for (int first = 0; first < sizes.length; first += 4) {
            behind = behind.divide(BigInteger.valueOf(most(sizes, first)));
            int j = rest.divide(behind).intValueExact();
            rest = rest.mod(behind);
            for (int p = first; p < sizes.length && p < first + 4; p++) {
                rank = rank.multiply(BigInteger.valueOf(sizes[p])).add(BigInteger.valueOf(Math.min(j, sizes[p] - 1)));
            }
        }
        return rank;
    }

    /** How many phrases have a rank up to this one: they rise as the phrases do. */
    private static BigInteger phrasesUpTo(BigInteger rank, int... sizes) {
        BigInteger low = BigInteger.ZERO;
        BigInteger high = phrasesOf(sizes);
        while (low.compareTo(high) < 0) {
            BigInteger middle = low.add(high).shiftRight(1);
            if (rankOf(middle, sizes).compareTo(rank) <= 0) {
                low = middle.add(BigInteger.ONE);
            } else {
                high = middle;
            }
        }
        return low;
    }

    /** The rank among the rows of FLAT of the k-th that is besides. */
    private static BigInteger besidesRank(long k, int... sizes) {
        BigInteger rank = BigInteger.valueOf(k);
        BigInteger next = rank.add(phrasesUpTo(rank, sizes));
        while (!next.equals(rank)) {
            rank = next;
            next = BigInteger.valueOf(k).add(phrasesUpTo(rank, sizes));
        }
        return rank;
    }

    private void spells(Talk talk, int kind, long k, BigInteger rank, int... sizes) {
        ask.due("words of row " + k + " of kind " + kind, talk.x.row(kind, k, -1), sizes.length);
        BigInteger rest = rank;
        for (int p = sizes.length - 1; p >= 0; p--) {
            BigInteger[] parts = rest.divideAndRemainder(BigInteger.valueOf(sizes[p]));
            ask.due("word " + p + " of row " + k + " of kind " + kind, talk.x.row(kind, k, p), parts[1].intValue());
            rest = parts[0];
        }
    }

    // 2^15 * 3^13 * 5^8 * 7^2: of the counts that there can be the next below 10^18.
    private static final int[] BELOW = {6, 6, 6, 6, 6, 6, 6, 6, 6, 6, 6, 6, 6, 4, 5, 5, 5, 5, 5, 5, 5, 5, 7, 7};
    private static final int[] AT = {5, 5, 5, 5, 5, 5, 5, 5, 5, 5, 5, 5, 5, 5, 5, 5, 5, 5, 8, 8, 8, 8, 8, 8};
    // 2^15 * 3^2 * 5 * 7^14: the next above it.
    private static final int[] ABOVE = {7, 7, 7, 7, 7, 7, 7, 7, 7, 7, 7, 7, 7, 7, 8, 8, 8, 8, 8, 3, 3, 5};
    private static final int[] FAR = {8, 8, 8, 8, 8, 8, 8, 8, 8, 8, 8, 8, 8, 8, 8, 8, 8, 8, 8, 8, 8, 8, 8, 8, 8, 8, 8, 8,
        8, 8, 8, 8, 8, 8, 8, 8, 8, 8, 8, 8, 8, 8, 8, 8};

    private void countsUpTo1018() {
        ask.sentence("A count above 10^18 (of FLAT's rows, BESIDES) is told as 10^18");
        ask.due("below", product(BELOW).compareTo(MOST), -1);
        ask.due("below by", MOST.subtract(product(BELOW)).longValueExact(), 40614400000000L);
        ask.due("told below", sized(BELOW).x.rows(0), product(BELOW).longValueExact());
        ask.due("at", product(AT).compareTo(MOST), 0);
        ask.due("told at", sized(AT).x.rows(0), MOST_TOLD);
        ask.due("above", product(ABOVE).compareTo(MOST), 1);
        ask.due("above by", product(ABOVE).subtract(MOST).longValueExact(), 80614300221440L);
        ask.due("told above", sized(ABOVE).x.rows(0), MOST_TOLD);
        ask.due("told far above", sized(FAR).x.rows(0), MOST_TOLD);
        // 2^64 rows: a count that wraps around would be none.
        int[] wraps = {2, 2, 2, 2, 2, 2, 2, 2, 2, 2, 2, 2, 2, 2, 2, 2, 2, 2, 2, 2, 2, 2, 2, 2, 2, 2, 2, 2, 2, 2, 2, 2,
            2, 2, 2, 2, 2, 2, 2, 2, 2, 2, 2, 2, 2, 2, 2, 2, 2, 2, 2, 2, 2, 2, 2, 2, 2, 2, 2, 2, 2, 2, 2, 2};
        ask.due("told of 2^64", sized(wraps).x.rows(0), MOST_TOLD);
        int[] sixty = java.util.Arrays.copyOf(wraps, 60);
        ask.due("told of 2^60", sized(sixty).x.rows(0), MOST_TOLD);
        int[] fiftyNine = java.util.Arrays.copyOf(wraps, 59);
        ask.due("told of 2^59", sized(fiftyNine).x.rows(0), 1L << 59);
    }

    private void besidesUpTo1018() {
        ask.sentence("(of FLAT's rows, BESIDES)");
        int[][] all = {BELOW, AT, ABOVE, FAR};
        for (int[] sizes : all) {
            Talk talk = sized(sizes);
            BigInteger besides = product(sizes).subtract(phrasesOf(sizes));
            ask.due("phrases", talk.x.phrases(), phrasesOf(sizes).longValueExact());
            ask.due("lost", talk.x.rows(1), 0);
            ask.due("besides", talk.x.rows(2), besides.min(MOST).longValueExact());
        }
        // More rows than 10^18, but fewer than that besides: 2^48 of them are phrases.
        Talk talk = Talk.graph("a ".repeat(14) + "b c", "a => p x,q x,r x,s x,t x,u x,v x,p y",
                "b => p p,p q,p r,q p,q q,q r,r p,r q", "c => p x,q x,r x,s x,t x,p y,q y,r y");
        long besides = product(ABOVE).subtract(BigInteger.ONE.shiftLeft(48)).longValueExact();
        ask.due("flat", talk.x.rows(0), MOST_TOLD);
        ask.due("besides", talk.x.rows(2), besides);
        ask.due("the last", talk.x.row(2, besides - 1, -1), 32);
        ask.due("the one behind", talk.x.row(2, besides, -1), Bounds.BAD);
    }

    private void rowsOfGreatCounts() {
        ask.sentence("then, too, the k-th row (k below that) is the one that has k ahead of it.");
        int[][] all = {BELOW, AT, ABOVE, FAR};
        for (int[] sizes : all) {
            long flat = product(sizes).min(MOST).longValueExact();
            long besides = product(sizes).subtract(phrasesOf(sizes)).min(MOST).longValueExact();
            for (long k : new long[] {0, 1, 1L << 32, flat / 3, flat - 2, flat - 1}) {
                spells(sized(sizes), 0, k, BigInteger.valueOf(k), sizes);
            }
            for (long k : new long[] {0, 1, 1L << 32, besides / 3, besides - 2, besides - 1}) {
                spells(sized(sizes), 2, k, besidesRank(k, sizes), sizes);
            }
            Talk talk = sized(sizes);
            for (long k : new long[] {-1, MOST_TOLD, MOST_TOLD + 1, Long.MAX_VALUE, Long.MIN_VALUE}) {
                ask.due("row " + k, talk.x.row(0, k, -1), Bounds.BAD);
                ask.due("row " + k + " besides", talk.x.row(2, k, -1), Bounds.BAD);
            }
            ask.due("the row behind the last", talk.x.row(0, flat, -1), Bounds.BAD);
            ask.due("the row besides behind the last", talk.x.row(2, besides, -1), Bounds.BAD);
        }
    }

    private void position() {
        ask.sentence("The i-th WORD (by its NUMBER, rising) of POSITION p; i = -1: how many. BAD.");
        Talk none = new Talk();
        for (int p : new int[] {Bounds.LEAST, -1, 0, 1, Bounds.GREATEST}) {
            ask.due("position " + p + " of none", none.x.position(p, -1), Bounds.BAD);
            ask.due("position " + p + " of none", none.x.position(p, 0), Bounds.BAD);
        }
        Talk talk = new Talk();
        talk.haveWords(200);
        talk.rule("100 => 299 101, 164, 163, 228, 227, 100, 298, 101 299");
        talk.x.reload();
        talk.input("100");
        talk.x.graph();
        int[] due = {0, 1, 63, 64, 127, 128, 198, 199};
        ask.due("words", talk.x.position(0, -1), 8);
        for (int i = 0; i < due.length; i++) {
            ask.due("word " + i, talk.x.position(0, i), due[i]);
        }
        ask.due("words", talk.x.position(1, -1), 2);
        ask.due("word 0", talk.x.position(1, 0), 1);
        ask.due("word 1", talk.x.position(1, 1), 199);
        for (int i : new int[] {Bounds.LEAST, -3, -2, 8, 9, Bounds.GREATEST}) {
            ask.due("position 0 " + i, talk.x.position(0, i), Bounds.BAD);
            ask.due("position 1 " + i, talk.x.position(1, i), Bounds.BAD);
        }
        ask.due("position 1 2", talk.x.position(1, 2), Bounds.BAD);
        for (int p : new int[] {Bounds.LEAST, -1, 2, 63, 64, 65, Bounds.GREATEST}) {
            for (int i : new int[] {Bounds.LEAST, -1, 0, Bounds.GREATEST}) {
                ask.due("position " + p + " " + i, talk.x.position(p, i), Bounds.BAD);
            }
        }
    }

    private void rows() {
        ask.sentence("How many rows FLAT spells (kind 0), are LOST (1), BESIDES (2). BAD.");
        Talk talk = Talk.graph("a b", "a => c d, e, f g", "b, h");
        long[] due = {12, 2, 8};
        for (int kind = 0; kind < 3; kind++) {
            ask.due("rows " + kind, talk.x.rows(kind), due[kind]);
        }
        for (int kind : new int[] {Bounds.LEAST, -2, -1, 3, 4, Bounds.GREATEST}) {
            ask.due("rows " + kind, talk.x.rows(kind), Bounds.BAD);
            ask.due("rows " + kind + " of a new object", new Talk().x.rows(kind), Bounds.BAD);
        }
    }

    private void row() {
        ask.sentence("The NUMBER of the i-th WORD of the k-th row of a kind, as rows(); i = -1: how many WORDS. BAD.");
        Talk none = new Talk();
        ask.due("row 0 of nothing", none.x.row(0, 0, -1), 0);
        ask.due("its word", none.x.row(0, 0, 0), Bounds.BAD);
        ask.due("nothing lost", none.x.row(1, 0, -1), Bounds.BAD);
        ask.due("nothing besides", none.x.row(2, 0, -1), Bounds.BAD);
        Talk talk = Talk.graph("a b", "a => c d, e, f g", "b, h");
        int[] words = {3, 2, 3};
        for (int kind = 0; kind < 3; kind++) {
            long count = talk.x.rows(kind);
            for (long k : new long[] {0, count - 1}) {
                ask.due("words", talk.x.row(kind, k, -1), words[kind]);
                ask.due("the last word", talk.x.row(kind, k, words[kind] - 1), k == 0 ? 6 : 7);
                for (int i : new int[] {Bounds.LEAST, -3, -2, words[kind], words[kind] + 1, Bounds.GREATEST}) {
                    ask.due("row " + kind + " " + k + " " + i, talk.x.row(kind, k, i), Bounds.BAD);
                }
            }
            for (long k : new long[] {Long.MIN_VALUE, -1L << 32, -1, count, count + 1, 1L << 32, Long.MAX_VALUE}) {
                ask.due("row " + kind + " " + k, talk.x.row(kind, k, -1), Bounds.BAD);
                ask.due("row " + kind + " " + k, talk.x.row(kind, k, 0), Bounds.BAD);
            }
        }
        for (int kind : new int[] {Bounds.LEAST, -2, -1, 3, 4, Bounds.GREATEST}) {
            ask.due("row " + kind, talk.x.row(kind, 0, -1), Bounds.BAD);
            ask.due("row " + kind + " greatest", talk.x.row(kind, Long.MAX_VALUE, Bounds.GREATEST), Bounds.BAD);
        }
    }
}
