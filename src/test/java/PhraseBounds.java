/** Bounds of section 4, PHRASES and WEIGHT, and of promises 17 to 21. */
final class PhraseBounds {
    private final Bounds ask;

    PhraseBounds(Bounds ask) {
        this.ask = ask;
    }

    void all() {
        eachOnce();
        order();
        wholeWeights();
        greatestOfWays();
        phrases();
        phrase();
        weight();
        which();
        whichOfAnyLength();
        heaviest();
    }

    private void phrases(Talk talk, String... due) {
        ask.due("phrases", talk.x.phrases(), due.length);
        for (int k = 0; k < due.length; k++) {
            ask.same("phrase " + k, talk.phrase(k), due[k]);
            ask.due("which <" + due[k] + ">", talk.which(due[k]), k);
        }
        ask.due("the one behind the last", talk.x.phrase(due.length, -1), Bounds.BAD);
    }

    private void eachOnce() {
        ask.sentence("PHRASES of THE GRAPH are the rows of WORDS along ways from NODE 0 to THE LAST NODE (EDGES without a WORD add nothing), each once");
        phrases(new Talk(), "");
        phrases(Talk.graph("a", "a =>"), "");
        phrases(Talk.graph("a ".repeat(16), "a =>"), "");
        phrases(Talk.graph("a a", "a => b", "a =>"), "", "b", "b b");
        phrases(Talk.graph("a a", "a => b, b b"), "b b", "b b b", "b b b b");
        phrases(Talk.graph("a c", "a => x, x y", "c => y z, z"), "x y y z", "x y z", "x z");
        phrases(Talk.graph("a b a", "a =>"), "b");
    }

    private void order() {
        ask.sentence("numbered 0, 1, .. in this order: the lesser NUMBER where two first differ; one that another begins with goes ahead of that.");
        phrases(Talk.graph("z", "z => b, a, c"), "b", "a", "c");
        phrases(Talk.graph("q", "z => b a, a", "q => a a, b, a, b b, a b, b a"), "b", "b b", "b a", "a", "a b", "a a");
        phrases(Talk.graph("a", "a => b c d e, b c d, b c, b", "a =>"), "", "b", "b c", "b c d", "b c d e");
        Talk far = new Talk();
        far.haveWords(200);
        far.rule("100 => 299, 298, 163, 164, 227, 228, 101, 299 100");
        far.x.reload();
        far.input("100");
        far.x.graph();
        phrases(far, "101", "163", "164", "227", "228", "298", "299", "299 100");
    }

    private void wholeWeights() {
        ask.sentence("The WEIGHT of a way is the product of its EDGES' TENTHS, each by 10");
        long least = 1;
        for (int matches = 16; matches >= 0; matches--) {
            Talk talk = Talk.graph("a ".repeat(matches), "a => b^1");
            ask.due("weight of " + matches + " with 1 tenth", talk.x.weight(0), least);
            least *= 10;
        }
        long[] powers = {1, 1, 1, 1, 1, 1, 1, 1, 1, 1, 1};
        for (int tenths = 1; tenths <= 10; tenths++) {
            for (int i = 0; i < 16; i++) {
                powers[tenths] *= tenths;
            }
            Talk talk = Talk.graph("a ".repeat(16), "a => b c d e^" + tenths);
            ask.due("weight of 16 with " + tenths, talk.x.weight(0), powers[tenths]);
        }
        Talk none = Talk.graph("a", "a => b^1", "a =>");
        ask.due("without a word", none.x.weight(0), Bounds.WHOLE);
        ask.due("by edge 0 without a word", Talk.graph("a", "a =>", "a => b^1").x.weight(0), Bounds.WHOLE);
        ask.due("by 16 edges without a word", Talk.graph("a ".repeat(16), "a =>").x.weight(0), Bounds.WHOLE);
        ask.due("an edge without a word behind a word", Talk.graph("b a", "a =>", "b^4").x.weight(0), Bounds.WHOLE / 10 * 4);
        ask.due("an edge without a word ahead of a word", Talk.graph("a b", "a =>", "b^4").x.weight(0), Bounds.WHOLE / 10 * 4);
        Talk greatest = Talk.graph("a ".repeat(16),
                "a => x y z p^9, x y z q^9, x y z r^9, x y z s^9, x y z t^9, x y z u^9, x y z v^9, x y z w^9");
        ask.due("of the greatest graph", greatest.x.size(0), 401);
        ask.due("its first", greatest.x.weight(0), 1853020188851841L);
        ask.due("its last", greatest.x.weight((1L << 48) - 1), 1853020188851841L);
        ask.due("with 1 tenth", none.x.weight(1), Bounds.WHOLE / 10);
    }

    private void greatestOfWays() {
        ask.sentence("of a PHRASE the greatest of its ways; it is told times 10^16 (a whole number always).");
        String[][] rules = {{"a => x^1, x y^9", "c => y z^1, z^9"}, {"a => x^9, x y^1", "c => y z^9, z^1"}};
        for (String[] two : rules) {
            Talk talk = Talk.graph("a c", two);
            ask.due("phrases", talk.x.phrases(), 3);
            ask.due("x y z, by two ways", talk.x.weight(1), Bounds.WHOLE / 100 * 81);
        }
        Talk skips = Talk.graph("a a a", "a => b^3", "a =>");
        long[] due = {1000, 300, 90, 27};
        for (int k = 0; k < 4; k++) {
            ask.due("weight of " + k, skips.x.weight(k), Bounds.WHOLE / 1000 * due[k]);
        }
        Talk both = Talk.graph("a b", "a => c^3", "a =>", "b => c^7", "b =>");
        ask.due("c by a or by b", both.x.weight(1), Bounds.WHOLE / 10 * 7);
        ask.due("c c", both.x.weight(2), Bounds.WHOLE / 100 * 21);
    }

    private void phrases() {
        ask.sentence("How many PHRASES.");
        ask.due("of a new object", new Talk().x.phrases(), 1);
        ask.due("of one word", Talk.graph("a").x.phrases(), 1);
        long all = 1;
        for (int words = 0; words <= 16; words++) {
            ask.due(words + " of 8", Talk.graph("a ".repeat(words), "a => b,c,d,e,f,g,h,i").x.phrases(), all);
            all *= 8;
        }
    }

    private void phrase() {
        ask.sentence("The NUMBER of the i-th WORD of PHRASE k; i = -1: how many WORDS. BAD.");
        Talk none = new Talk();
        for (long k : new long[] {Long.MIN_VALUE, -1, 1, 1L << 32, Long.MAX_VALUE}) {
            ask.due("phrase " + k + " of a new object", none.x.phrase(k, -1), Bounds.BAD);
        }
        ask.due("phrase 0", none.x.phrase(0, -1), 0);
        ask.due("its word", none.x.phrase(0, 0), Bounds.BAD);
        Talk most = Talk.graph("a ".repeat(16), "a => b b b b, c,d,e,f,g,h,i");
        long all = 1L << 48;
        for (long k : new long[] {0, 1, all - 2, all - 1}) {
            int words = k == 0 ? 64 : k == 1 ? 61 : 16;
            ask.due("words of " + k, most.x.phrase(k, -1), words);
            ask.due("first of " + k, most.x.phrase(k, 0), k < 2 ? 1 : 8);
            int last = k == 0 ? 1 : k == 1 ? 2 : k == all - 2 ? 7 : 8;
            ask.due("last of " + k, most.x.phrase(k, words - 1), last);
            for (int i : new int[] {Bounds.LEAST, -3, -2, words, words + 1, 64, 65, Bounds.GREATEST}) {
                ask.due("phrase " + k + " " + i, most.x.phrase(k, i), Bounds.BAD);
            }
        }
        for (long k : new long[] {Long.MIN_VALUE, Long.MIN_VALUE + 1, -all, -1L << 32, -1, all, all + 1, Long.MAX_VALUE}) {
            ask.due("phrase " + k, most.x.phrase(k, -1), Bounds.BAD);
            ask.due("phrase " + k, most.x.phrase(k, 0), Bounds.BAD);
        }
    }

    private void weight() {
        ask.sentence("The WEIGHT of PHRASE k. BAD.");
        Talk none = new Talk();
        ask.due("of a new object", none.x.weight(0), Bounds.WHOLE);
        Talk talk = Talk.graph("a a", "a => b^3, c^1");
        long[] due = {9, 3, 3, 1};
        for (int k = 0; k < 4; k++) {
            ask.due("weight of " + k, talk.x.weight(k), Bounds.WHOLE / 100 * due[k]);
        }
        for (long k : new long[] {Long.MIN_VALUE, -1L << 32, -4, -1, 1L << 32, (1L << 32) + 1, 1L << 48, Long.MAX_VALUE}) {
            ask.due("weight of " + k, talk.x.weight(k), Bounds.BAD);
            ask.due("weight of " + k + " of a new object", none.x.weight(k), Bounds.BAD);
        }
        ask.due("weight of 4", talk.x.weight(4), Bounds.BAD);
        ask.due("weight of 1 of a new object", none.x.weight(1), Bounds.BAD);
        Talk most = Talk.graph("a ".repeat(16), "a => b,c,d,e,f,g,h,i^1");
        ask.due("the first of the most", most.x.weight(0), Bounds.WHOLE);
        ask.due("the last of the most", most.x.weight((1L << 48) - 1), 1);
        ask.due("the one behind it", most.x.weight(1L << 48), Bounds.BAD);
    }

    private void which() {
        ask.sentence("THE TEXT is a ROW (of any length): which PHRASE it is. A FAULT; NONE: it is none.");
        Talk talk = Talk.graph("a b", "a, c d^5", "b =>");
        ask.due("the first", talk.which("a"), 0);
        ask.due("the last", talk.which("c d"), 1);
        for (String none : new String[] {"", "c", "d", "a b", "a a", "c d a", "d c", "q", "a q", "q a"}) {
            ask.due("which <" + none + ">", talk.which(none), Bounds.NONE);
        }
        ask.due("a fault goes ahead of none", talk.which("q ,"), -12);
        ask.due("a fault goes ahead of what it is", talk.which("a !"), -12);
        ask.due("tenths are no row", talk.which("c d^5"), -13);
        ask.due("no words have numbers by it", talk.x.told(1), 4);
        ask.due("nothing as a phrase", Talk.graph("a", "a =>").which(""), 0);
        ask.due("nothing as a phrase", new Talk().which("  "), 0);
        ask.due("a word without a number", new Talk().which("a"), Bounds.NONE);
        Talk full = new Talk();
        full.haveWords(200);
        ask.due("a word more than 200 is asked for", full.which("a 100"), Bounds.NONE);
        ask.due("words", full.x.told(1), 200);
    }

    private void whichOfAnyLength() {
        ask.sentence("`long which()`: THE TEXT is a ROW (of any length)");
        Talk talk = Talk.graph("a ".repeat(16), "a => b b b b, b b b");
        ask.due("phrases", talk.x.phrases(), 17);
        for (int words : new int[] {0, 1, 16, 17, 47, 48, 49, 63, 64, 65, 66, 103, 104}) {
            long due = words >= 48 && words <= 64 ? words - 48 : Bounds.NONE;
            ask.due("which of " + words, talk.which("b ".repeat(words)), due);
            ask.due("the text", talk.x.told(0), 0);
        }
        ask.due("a fault behind 103 words", talk.which("b ".repeat(103) + ","), -216);
    }

    private void heaviest() {
        ask.sentence("The PHRASE of the greatest WEIGHT, of several the least.");
        ask.due("of a new object", new Talk().x.heaviest(), 0);
        ask.due("of one", Talk.graph("a", "a => b^1").x.heaviest(), 0);
        ask.due("the last", Talk.graph("a", "a => b^1, c^2, d^3").x.heaviest(), 2);
        ask.due("the first", Talk.graph("a", "a => b^3, c^2, d^1").x.heaviest(), 0);
        ask.due("of several the least", Talk.graph("a", "a => b^1, c^2, d^2").x.heaviest(), 1);
        ask.due("least by numbers", Talk.graph("q", "z => b, c", "q => c, b").x.heaviest(), 0);
        ask.due("one begins the other", Talk.graph("a", "a => b c^5, b^5").x.heaviest(), 0);
        ask.due("the longer is heavier", Talk.graph("a", "a => b c^6, b^5").x.heaviest(), 1);
        ask.due("without a word", Talk.graph("a ".repeat(16), "a => b", "a =>").x.heaviest(), 0);
        ask.due("the greater of two ways", Talk.graph("a c", "a => x^1, x y^9", "c => y z^1, z^9").x.heaviest(), 1);
        Talk last = Talk.graph("a ".repeat(16), "a => b^9,c^8,d^9,e^1,f^9,g^9,h^9,i^10");
        ask.due("the last of the most", last.x.heaviest(), (1L << 48) - 1);
        Talk inner = Talk.graph("a ".repeat(16), "a => b c d e^1, f g^1");
        ask.due("the first of 64 words, with the least weight", inner.x.heaviest(), 0);
        Talk greatest = Talk.graph("a ".repeat(16),
                "a => x y z p, x y z q, x y z r, x y z s, x y z t, x y z u, x y z v^1, x y z w^1");
        ask.due("of the greatest graph", greatest.x.heaviest(), 0);
        Talk first = Talk.graph("a ".repeat(16), "a => b^1,c^1,d^1,e^1,f^1,g^1,h^1,i^1");
        ask.due("the first of the most", first.x.heaviest(), 0);
    }
}
