/** Bounds of section 5, THE DOCUMENT and HITS, and of promises 25 to 28. */
final class DocumentBounds {
    private static final long TENTH = Bounds.WHOLE / 10;
    private final Bounds ask;

    DocumentBounds(Bounds ask) {
        this.ask = ask;
    }

    void all() {
        fortyWords();
        places();
        withAWord();
        asItIs();
        document();
        hits();
        hit();
        longestAndHowMany();
        hitWeight();
    }

    private void hit(Talk talk, int k, int place, int longest, int phrases, long weight) {
        ask.due("place of hit " + k, talk.x.hit(k, 0), place);
        ask.due("longest of hit " + k, talk.x.hit(k, 1), longest);
        ask.due("phrases of hit " + k, talk.x.hit(k, 2), phrases);
        ask.due("weight of hit " + k, talk.x.hitWeight(k), weight);
    }

    private void fortyWords() {
        ask.sentence("THE DOCUMENT is a ROW of 40 WORDS at most.");
        for (int words : new int[] {0, 1, 39, 40}) {
            Talk talk = Talk.graph("a");
            ask.due(words + " words", talk.document("a ".repeat(words)), words);
            ask.due("told", talk.x.told(7), words);
            ask.due("hits", talk.x.hits(), words);
        }
        Talk above = Talk.graph("a");
        above.document("a a");
        ask.due("41 words", above.document("a ".repeat(41)), -10 - 80);
        ask.due("told", above.x.told(7), 2);
        ask.due("hits", above.x.hits(), 2);
    }

    private void places() {
        ask.sentence("HITS are the places of it, rising, at which a PHRASE of THE GRAPH with a WORD stands (its WORDS are those from there on).");
        Talk talk = Talk.graph("a b");
        talk.document("a b b a a b a");
        ask.due("hits", talk.x.hits(), 2);
        hit(talk, 0, 0, 2, 1, 10 * TENTH);
        hit(talk, 1, 4, 2, 1, 10 * TENTH);
        String[] ends = {"a b", "a", "b a", "b", "a b a", "x a b"};
        int[] hits = {1, 0, 0, 0, 1, 1};
        for (int i = 0; i < ends.length; i++) {
            talk.document(ends[i]);
            ask.due("hits of " + ends[i], talk.x.hits(), hits[i]);
        }
        Talk longest = Talk.graph("a ".repeat(10), "a => b b b b");
        longest.document("b ".repeat(39));
        ask.due("a phrase of 40 in 39", longest.x.hits(), 0);
        longest.document("b ".repeat(40));
        ask.due("a phrase of 40 in 40", longest.x.hits(), 1);
        hit(longest, 0, 0, 40, 1, 10 * TENTH);
        Talk above = Talk.graph("a ".repeat(10) + "b", "a => b b b b");
        above.document("b ".repeat(40));
        ask.due("a phrase of 41 in 40", above.x.hits(), 0);
    }

    private void withAWord() {
        ask.sentence("a PHRASE of THE GRAPH with a WORD stands");
        Talk none = Talk.graph("a", "a =>");
        none.document("a b c");
        ask.due("only a phrase without a word", none.x.hits(), 0);
        ask.due("hit 0", none.x.hit(0, 0), Bounds.BAD);
        ask.due("its weight", none.x.hitWeight(0), Bounds.BAD);
        Talk empty = new Talk();
        empty.document("a b c");
        ask.due("of a new object", empty.x.hits(), 0);
        Talk both = Talk.graph("a", "a => b^3, b c^2", "a =>");
        both.document("c b c a b");
        ask.due("with a word and without", both.x.hits(), 2);
        hit(both, 0, 1, 2, 2, 3 * TENTH);
        hit(both, 1, 4, 1, 1, 3 * TENTH);
    }

    private void asItIs() {
        ask.sentence("(sections 3, 4, 5: also HITS, by THE DOCUMENT as it is)");
        Talk talk = new Talk();
        talk.document("a b a");
        talk.input("a");
        ask.due("ahead of any graph", talk.x.hits(), 0);
        talk.x.graph();
        ask.due("a graph behind the document", talk.x.hits(), 2);
        talk.document("a a a a");
        ask.due("a document behind the graph", talk.x.hits(), 4);
        talk.input("b");
        ask.due("the graph as it was", talk.x.hits(), 4);
        talk.x.graph();
        ask.due("the new graph", talk.x.hits(), 0);
        talk.document("");
        ask.due("no document", talk.x.hits(), 0);
        // A word that came by the document alone is in no phrase.
        talk.document("b c");
        ask.due("a new word", talk.x.hits(), 1);
    }

    private void document() {
        ask.sentence("`int document()`: THE TEXT is THE DOCUMENT: how many WORDS. A FAULT; FULL: there would be 201 WORDS with NUMBERS.");
        Talk talk = new Talk();
        ask.due("nothing", talk.x.document(), 0);
        ask.due("one", talk.document("a"), 1);
        ask.due("nothing again", talk.x.document(), 0);
        talk.haveWords(199);
        int before = talk.x.told(7);
        ask.due("two more than 199", talk.document("b c"), Bounds.FULL);
        ask.due("a fault goes ahead of full", talk.document("b c ^"), -14);
        ask.due("a 41st word goes ahead of full", talk.document("b c " + "a ".repeat(39)), -90);
        ask.due("told", talk.x.told(7), before);
        ask.due("one more, twice", talk.document("b a b"), 3);
        ask.due("200 words", talk.x.told(1), 200);
        ask.due("one more", talk.document("c"), Bounds.FULL);
        ask.due("one more behind 39 that are known", talk.document("a ".repeat(39) + "c"), Bounds.FULL);
        ask.due("told", talk.x.told(7), 3);
        ask.due("known ones", talk.document("a ".repeat(40)), 40);
    }

    private void hits() {
        ask.sentence("How many HITS.");
        ask.due("of a new object", new Talk().x.hits(), 0);
        Talk talk = Talk.graph("a");
        ask.due("without a document", talk.x.hits(), 0);
        talk.document("b b");
        ask.due("none", talk.x.hits(), 0);
        talk.document("b a");
        ask.due("the last word", talk.x.hits(), 1);
        talk.document("a b");
        ask.due("the first word", talk.x.hits(), 1);
        talk.document("a ".repeat(40));
        ask.due("all", talk.x.hits(), 40);
    }

    private void hit() {
        ask.sentence("Of HIT k: 0 its place, 1 how many WORDS the longest PHRASE has that stands there, 2 how many PHRASES stand there. BAD.");
        Talk none = new Talk();
        Talk without = Talk.graph("a");
        Talk talk = Talk.graph("a");
        talk.document("a b a b a");
        for (int k : new int[] {Bounds.LEAST, -2, -1, 3, 4, 40, Bounds.GREATEST}) {
            for (int what = 0; what < 3; what++) {
                ask.due("hit " + k + " of a new object", none.x.hit(k, what), Bounds.BAD);
                ask.due("hit " + k + " without a document", without.x.hit(k, what), Bounds.BAD);
                ask.due("hit " + k, talk.x.hit(k, what), Bounds.BAD);
            }
        }
        ask.due("hit 0 of a new object", none.x.hit(0, 0), Bounds.BAD);
        ask.due("hit 0 without a document", without.x.hit(0, 0), Bounds.BAD);
        for (int k = 0; k < 3; k++) {
            hit(talk, k, 2 * k, 1, 1, 10 * TENTH);
            for (int what : new int[] {Bounds.LEAST, -2, -1, 3, 4, Bounds.GREATEST}) {
                ask.due("hit " + k + " " + what, talk.x.hit(k, what), Bounds.BAD);
            }
        }
        talk.document("a ".repeat(40));
        hit(talk, 39, 39, 1, 1, 10 * TENTH);
        ask.due("hit 40", talk.x.hit(40, 0), Bounds.BAD);
    }

    private void longestAndHowMany() {
        ask.sentence("1 how many WORDS the longest PHRASE has that stands there, 2 how many PHRASES stand there.");
        Talk talk = Talk.graph("a ".repeat(10), "a => b, b b, b b b, b b b b");
        talk.document("b ".repeat(40));
        ask.due("hits", talk.x.hits(), 31);
        // Phrases of 10 to 40 words; at place p there is room for 40 - p.
        for (int k : new int[] {0, 1, 29, 30}) {
            hit(talk, k, k, 40 - k, 31 - k, 10 * TENTH);
        }
        ask.due("hit 31", talk.x.hit(31, 0), Bounds.BAD);
        Talk gap = Talk.graph("a", "a => b, b c d e, b c x");
        gap.document("b c d q b c d e b c");
        hit(gap, 0, 0, 1, 1, 10 * TENTH);
        hit(gap, 1, 4, 4, 2, 10 * TENTH);
        hit(gap, 2, 8, 1, 1, 10 * TENTH);
    }

    private void hitWeight() {
        ask.sentence("The greatest WEIGHT of the PHRASES with a WORD that stand at HIT k. BAD.");
        Talk none = new Talk();
        Talk talk = Talk.graph("a", "a => b^2, b c^9, b c b^4, b c b c^3", "a =>");
        talk.document("b c b c b q b c");
        long[] due = {9, 9, 2, 9};
        for (int k = 0; k < 4; k++) {
            ask.due("weight of hit " + k, talk.x.hitWeight(k), due[k] * TENTH);
        }
        for (int k : new int[] {Bounds.LEAST, -2, -1, 4, 5, 40, Bounds.GREATEST}) {
            ask.due("weight of hit " + k, talk.x.hitWeight(k), Bounds.BAD);
            ask.due("weight of hit " + k + " of a new object", none.x.hitWeight(k), Bounds.BAD);
        }
        ask.due("weight of hit 0 of a new object", none.x.hitWeight(0), Bounds.BAD);
        Talk first = Talk.graph("a", "a => b^9, b c^2");
        first.document("b c");
        ask.due("the shorter is the heavier", first.x.hitWeight(0), 9 * TENTH);
        Talk least = Talk.graph("a ".repeat(16), "a => b^1");
        least.document("b ".repeat(40));
        ask.due("the least", least.x.hitWeight(0), 1);
        ask.due("the least, at the last", least.x.hitWeight(24), 1);
        ask.due("behind it", least.x.hitWeight(25), Bounds.BAD);
    }
}
