/** Bounds of section 3, THE INPUT and THE GRAPH, and of promises 11 to 16. */
final class GraphBounds {
    private final Bounds ask;

    GraphBounds(Bounds ask) {
        this.ask = ask;
    }

    void all() {
        sixteenWords();
        fromTheLeft();
        longestLeft();
        wordAlone();
        nextMatch();
        newNodes();
        inTheSameOrder();
        mostNodesAndEdges();
        edgeWithoutWord();
        tenthsOfEdges();
        lastNode();
        firstSet();
        noSetWithoutNodes();
        differentSets();
        threeHundredSets();
        latestGraph();
        graphBehindGraph();
        aheadOfAny();
        input();
        longest();
        graph();
        size();
        match();
        edge();
    }

    private void sizes(String what, Talk talk, int... due) {
        for (int one = 0; one < due.length; one++) {
            ask.due(what + ", size " + one, talk.x.size(one), due[one]);
        }
    }

    private void match(Talk talk, int k, int... due) {
        for (int what = 0; what < 5; what++) {
            ask.due("match " + k + " " + what, talk.x.match(k, what), due[what]);
        }
    }

    private void edge(Talk talk, int k, int... due) {
        for (int what = 0; what < 4; what++) {
            ask.due("edge " + k + " " + what, talk.x.edge(k, what), due[what]);
        }
    }

    private void sixteenWords() {
        ask.sentence("THE INPUT is a ROW of 16 WORDS at most.");
        for (int words : new int[] {0, 1, 15, 16}) {
            Talk talk = new Talk();
            ask.due(words + " words", talk.input("a ".repeat(words)), words);
            ask.due("told", talk.x.told(6), words);
            ask.due("nodes", talk.x.graph(), words + 1);
            ask.due("matches", talk.x.size(2), words);
        }
        Talk above = new Talk();
        above.input("b");
        ask.due("17 words", above.input("a ".repeat(17)), -10 - 32);
        ask.due("told", above.x.told(6), 1);
        ask.due("no number", above.x.told(1), 1);
        ask.due("16 words of 12 bytes", above.input("abcdefghijkl ".repeat(16)), 16);
    }

    private void fromTheLeft() {
        ask.sentence("MATCHES of it from the left: at a word of THE INPUT");
        // The longer left begins within the first match, so it does not come to stand.
        Talk talk = Talk.graph("a b c d", "b c d => x", "a b => y", "c => z");
        ask.due("matches", talk.x.size(2), 3);
        match(talk, 0, 0, 2, 1, 1, 0);
        match(talk, 1, 2, 1, 2, 1, 1);
        match(talk, 2, 3, 1, Bounds.NONE, 1, 2);
        ask.same("the only phrase", talk.phrase(0), "y z d");
        Talk later = Talk.graph("c b c d", "b c d => x", "a b => y", "c => z");
        ask.due("matches", later.x.size(2), 2);
        match(later, 1, 1, 3, 0, 1, 1);
        ask.same("the only phrase", later.phrase(0), "z x");
    }

    private void longestLeft() {
        ask.sentence("at a word of THE INPUT stands the longest LEFT IN FORCE whose WORDS are those from there on: that is a MATCH, with its ALTERNATIVES");
        String[] rules = {"a b => p", "a b c d => q, q q", "a => r", "a b c => s"};
        int[] lefts = {2, 0, 3, 1};
        String input = "a b c d";
        for (int words = 1; words <= 4; words++) {
            // One word too few for the next longer left: it does not stand at the end of the input.
            Talk talk = Talk.graph(input.substring(0, 2 * words - 1), rules);
            ask.due("matches of " + words, talk.x.size(2), 1);
            match(talk, 0, 0, words, lefts[words - 1], words == 4 ? 2 : 1, 0);
        }
        Talk other = Talk.graph("a b c x", rules);
        ask.due("matches", other.x.size(2), 2);
        match(other, 0, 0, 3, 3, 1, 0);
        Talk end = Talk.graph("x ".repeat(12) + "a b c d", rules);
        ask.due("matches", end.x.size(2), 13);
        match(end, 12, 12, 4, 1, 2, 12);
        Talk cut = Talk.graph("x ".repeat(13) + "a b c", rules);
        match(cut, 13, 13, 3, 3, 1, 13);
        // A fifth word tells nothing, though the bits of a's number and b's together are c's.
        Talk fifth = new Talk();
        fifth.document("a b c");
        fifth.rule("c b b b => q");
        fifth.x.reload();
        fifth.input("a b b b b");
        ask.due("longest by a fifth word", fifth.x.longest(0), 0);
    }

    private void wordAlone() {
        ask.sentence("if there is none, the word alone is a MATCH, and the only ALTERNATIVE (10 TENTHS).");
        Talk talk = Talk.graph("b a c", "a => d^5", "b x => e", "c c => f");
        ask.due("matches", talk.x.size(2), 3);
        match(talk, 0, 0, 1, Bounds.NONE, 1, 0);
        match(talk, 1, 1, 1, 0, 1, 1);
        match(talk, 2, 2, 1, Bounds.NONE, 1, 2);
        edge(talk, 0, 0, 1, 2, 10);
        edge(talk, 1, 1, 2, 1, 5);
        edge(talk, 2, 2, 3, 5, 10);
        Talk nothing = Talk.graph("a ".repeat(16));
        sizes("nothing in force", nothing, 17, 16, 16, 17, 16);
        match(nothing, 15, 15, 1, Bounds.NONE, 1, 15);
    }

    private void nextMatch() {
        ask.sentence("The next MATCH begins behind it. What a RULE lays is not matched again.");
        Talk talk = Talk.graph("a b c d e a", "a b, b c d e, c d, x");
        ask.due("matches", talk.x.size(2), 4);
        match(talk, 0, 0, 2, 0, 4, 0);
        match(talk, 1, 2, 2, 2, 4, 6);
        match(talk, 2, 4, 1, Bounds.NONE, 1, 12);
        match(talk, 3, 5, 1, Bounds.NONE, 1, 13);
        Talk again = Talk.graph("a", "a => b c", "b c => d", "b => e", "c => f");
        ask.due("one match", again.x.size(2), 1);
        ask.due("phrases", again.x.phrases(), 1);
        ask.same("phrase 0", again.phrase(0), "b c");
        // What is laid and the word behind it are no match together, either.
        ask.same("laid and next", Talk.graph("a c", "a => b", "b c => d").phrase(0), "b c");
    }

    private void newNodes() {
        ask.sentence("one of n WORDS, n above 1, gets n - 1 new NODES, one for each place between two of its WORDS, in order; behind all ALTERNATIVES of the MATCH comes the NODE that is the BORDER behind it.");
        String words = "b c d e";
        for (int n = 1; n <= 4; n++) {
            Talk talk = Talk.graph("a", "a => " + words.substring(0, 2 * n - 1));
            sizes(n + " words", talk, n + 1, n);
            for (int e = 0; e < n; e++) {
                edge(talk, e, e, e + 1, e + 1, 10);
            }
        }
        sizes("none", Talk.graph("a", "a =>"), 2, 1);
        Talk talk = Talk.graph("a a", "a => b, c d, e f g, h i j k", "a =>");
        sizes("all", talk, 15, 22);
        int[][] due = {{0, 7}, {0, 1}, {1, 7}, {0, 2}, {2, 3}, {3, 7}, {0, 4}, {4, 5}, {5, 6}, {6, 7}, {0, 7}};
        for (int e = 0; e < due.length; e++) {
            int word = e == 10 ? Bounds.NONE : e + 1;
            edge(talk, e, due[e][0], due[e][1], word, 10);
            edge(talk, e + 11, due[e][0] + 7, due[e][1] + 7, word, 10);
        }
        match(talk, 1, 1, 1, 0, 5, 7);
    }

    private void inTheSameOrder() {
        ask.sentence("EDGES come in the same order: for each WORD one from the NODE before it to that behind it;");
        Talk talk = Talk.graph("a b c", "c => 0 1, 2", "a => 3, 4 5 6^5");
        sizes("two rules", talk, 7, 8, 3);
        // By numbers, c 0 1 2 a 3 4 5 6 b are 0 to 9.
        int[][] due = {{0, 3, 5}, {0, 1, 6}, {1, 2, 7}, {2, 3, 8}, {3, 4, 9}, {4, 5, 1}, {5, 6, 2}, {4, 6, 3}};
        for (int e = 0; e < due.length; e++) {
            edge(talk, e, due[e][0], due[e][1], due[e][2], e == 1 ? 5 : 10);
        }
    }

    private void mostNodesAndEdges() {
        ask.sentence("THE GRAPH has NODES 0, 1, .. and EDGES 0, 1, ..: NODE 0 is the first BORDER.");
        String wide = "a => x y z p, x y z q, x y z r, x y z s, x y z t, x y z u, x y z v, x y z w";
        Talk talk = Talk.graph("a ".repeat(16), wide);
        sizes("the greatest graph", talk, 401, 512, 16, 65, 64);
        edge(talk, 0, 0, 1, 1, 10);
        edge(talk, 511, 399, 400, 11, 10);
        ask.due("edge 512", talk.x.edge(512, 0), Bounds.BAD);
        match(talk, 15, 15, 1, 0, 8, 375);
        sizes("the least graph", new Talk(), 1, 0, 0, 1, 0);
    }

    private void edgeWithoutWord() {
        ask.sentence("for an ALTERNATIVE without a WORD one from BORDER to BORDER that has none.");
        Talk talk = Talk.graph("a b a", "a =>", "a => c d");
        sizes("graph", talk, 6, 7, 3);
        edge(talk, 0, 0, 2, Bounds.NONE, 10);
        edge(talk, 1, 0, 1, 1, 10);
        edge(talk, 2, 1, 2, 2, 10);
        edge(talk, 3, 2, 3, 3, 10);
        edge(talk, 4, 3, 5, Bounds.NONE, 10);
        Talk all = Talk.graph("a ".repeat(16), "a =>");
        sizes("nothing but such", all, 17, 16, 16, 1, 0);
        edge(all, 15, 15, 16, Bounds.NONE, 10);
    }

    private void tenthsOfEdges() {
        ask.sentence("The first EDGE of an ALTERNATIVE has its TENTHS, the others 10.");
        Talk talk = Talk.graph("a", "a => b c d e^1, f^1, g h^9, i j^10, k");
        int[] due = {1, 10, 10, 10, 1, 9, 10, 10, 10, 10};
        ask.due("edges", talk.x.size(1), due.length);
        for (int e = 0; e < due.length; e++) {
            ask.due("tenths of " + e, talk.x.edge(e, 3), due[e]);
        }
    }

    private void lastNode() {
        ask.sentence("THE LAST NODE is the last BORDER (NODE 0, if THE INPUT is empty).");
        Talk talk = Talk.graph("a", "a => b c, d");
        ask.due("nodes", talk.x.size(0), 3);
        ask.due("phrases end there", talk.x.phrases(), 2);
        talk.input("");
        ask.due("of nothing", talk.x.graph(), 1);
        ask.due("one phrase", talk.x.phrases(), 1);
        ask.due("without a word", talk.x.phrase(0, -1), 0);
        ask.due("no edge", talk.x.edge(0, 0), Bounds.BAD);
        ask.due("no match", talk.x.match(0, 4), Bounds.BAD);
        sizes("of nothing", talk, 1, 0, 0, 1, 0);
    }

    private void firstSet() {
        ask.sentence("SETS: the one of NODE 0 and of all to which EDGES without a WORD lead from it, one behind the other");
        for (int words : new int[] {0, 1, 2, 15, 16}) {
            Talk talk = Talk.graph("a ".repeat(words), "a =>");
            ask.due("sets of " + words + " that go", talk.x.size(3), 1);
            ask.due("phrases", talk.x.phrases(), 1);
            ask.due("without a word", talk.x.phrase(0, -1), 0);
        }
        Talk last = Talk.graph("a ".repeat(15) + "b", "a =>");
        ask.due("sets of 15 that go and a word", last.x.size(3), 2);
        ask.same("phrase", last.phrase(0), "b");
        Talk first = Talk.graph("b " + "a ".repeat(15), "a =>");
        ask.due("sets of a word and 15 that go", first.x.size(3), 2);
        ask.same("phrase", first.phrase(0), "b");
        Talk each = Talk.graph("a ".repeat(16), "a => c", "a =>");
        ask.due("sets of 16 that may go", each.x.size(3), 17);
        ask.due("phrases", each.x.phrases(), 17);
    }

    private void noSetWithoutNodes() {
        ask.sentence("(One without NODES is none.)");
        for (int words : new int[] {0, 1, 16}) {
            ask.due("sets of " + words, Talk.graph("a ".repeat(words)).x.size(3), words + 1);
        }
        ask.due("a and b lead on from different sets", Talk.graph("a b").x.size(3), 3);
    }

    private void differentSets() {
        ask.sentence("that of the NODES to which EDGES of that WORD lead from NODES of it, and those to which EDGES without a WORD lead from these.");
        ask.due("two edges of a word are one step", Talk.graph("a", "a => b c, b d").x.size(3), 3);
        ask.due("two words are two", Talk.graph("a", "a => b c, d c").x.size(3), 4);
        ask.due("the same set by two words", Talk.graph("a", "a => b, c").x.size(3), 2);
        ask.due("the same set by ways of two lengths", Talk.graph("a", "a => b, c d").x.size(3), 3);
        ask.due("a border and an inner node", Talk.graph("a", "a => b, b b").x.size(3), 3);
        Talk least = Talk.graph("a a", "a => b, b b, c");
        ask.due("sets with the same least node", least.x.size(3), 6);
        ask.due("their phrases", least.x.phrases(), 8);
        Talk again = Talk.graph("a a", "a => b, b b, c, b d");
        ask.due("sets with the same least node, come to again", again.x.size(3), 6);
        ask.due("their phrases", again.x.phrases(), 15);
        ask.due("with what may go behind it", Talk.graph("a b c", "b =>", "b", "c =>", "c").x.size(3), 4);
    }

    /** Eleven matches of 25 sets each, and a last one of so many. */
    private static Talk withSets(int last) {
        Talk talk = new Talk();
        talk.rule(GraphTest.WIDE);
        StringBuilder rule = new StringBuilder("e => ");
        for (int i = 1; i <= 8; i++) {
            rule.append(i == 1 ? "" : ", ").append("e").append(i).append(i <= 25 - last ? " b c" : " b c d");
        }
        talk.rule(rule.toString());
        talk.x.reload();
        talk.input("a ".repeat(11) + "e");
        return talk;
    }

    private void threeHundredSets() {
        ask.sentence("A GRAPH has 300 different SETS at most.");
        for (int last = 23; last <= 24; last++) {
            Talk talk = withSets(last);
            ask.due("nodes", talk.x.graph(), 276 + last);
            ask.due("sets", talk.x.size(3), 276 + last);
            ask.due("phrases", talk.x.phrases(), 1L << 36);
        }
        Talk above = withSets(25);
        ask.due("301 sets", above.x.graph(), Bounds.FULL);
        above.input("a ".repeat(16));
        ask.due("401 sets", above.x.graph(), Bounds.FULL);
        above.input("a ".repeat(11));
        ask.due("276 sets", above.x.graph(), 276);
        above.input("e " + "a ".repeat(11));
        ask.due("301 sets, the other way round", above.x.graph(), Bounds.FULL);
        // A greater graph may have fewer sets: they are what counts, not nodes.
        Talk nodes = Talk.graph("a ".repeat(16), "a => x y z p, x y z q, x y z r, x y z s, x y z t, x y z u, x y z v, x y z w");
        ask.due("401 nodes", nodes.x.size(0), 401);
        ask.due("65 sets", nodes.x.size(3), 65);
    }

    private void latestGraph() {
        ask.sentence("is that of the latest graph() that was not FULL");
        Talk talk = Talk.graph("a b", "a, c d^5");
        talk.document("c d b");
        talk.x.fresh();
        talk.rule(GraphTest.WIDE);
        talk.x.reload();
        talk.input("a ".repeat(16));
        for (int round = 0; round < 3; round++) {
            sizes("as it was", talk, 4, 4, 2, 4, 3);
            match(talk, 0, 0, 1, 0, 2, 0);
            edge(talk, 1, 0, 1, 1, 5);
            ask.due("version", talk.x.told(8), 1);
            ask.due("phrases", talk.x.phrases(), 2);
            ask.due("weight", talk.x.weight(1), Bounds.WHOLE / 2);
            ask.due("heaviest", talk.x.heaviest(), 0);
            ask.due("lost", talk.x.rows(1), 1);
            ask.due("hits", talk.x.hits(), 1);
            ask.due("graph", talk.x.graph(), Bounds.FULL);
        }
        talk.input("b");
        ask.due("graph", talk.x.graph(), 2);
        ask.due("version", talk.x.told(8), 2);
        sizes("the latest", talk, 2, 1, 1, 2, 1);
    }

    private void graphBehindGraph() {
        ask.sentence("What is told of THE GRAPH (sections 3, 4, 5: also HITS, by THE DOCUMENT as it is) is that of the latest graph()");
        String[] inputs = {"s ".repeat(5), "a b", "w ".repeat(9), "", "a s b", "b"};
        int[][] sizes = {{6, 10, 5, 6, 5}, {3, 2, 2, 3, 2}, {226, 288, 9, 226, 36}, {1, 0, 0, 1, 0}, {4, 4, 3, 4, 3}, {2, 1, 1, 2, 1}};
        long[][] rows = {{1, 5, 0}, {1, 0, 0}, {Long.MAX_VALUE, 0, Long.MAX_VALUE}, {1, 0, 0}, {1, 1, 0}, {1, 0, 0}};
        Talk talk = new Talk();
        talk.rule("s => t^5");
        talk.rule("s =>");
        talk.rule("w => " + GraphTest.WIDE.substring(5));
        talk.x.reload();
        for (int round = 0; round < 4; round++) {
            for (int i = 0; i < inputs.length; i++) {
                int at = round % 2 == 0 ? i : inputs.length - 1 - i;
                talk.input(inputs[at]);
                talk.x.graph();
                sizes("graph of " + inputs[at], talk, sizes[at]);
                ask.due("no match more", talk.x.match(sizes[at][2], 0), Bounds.BAD);
                ask.due("no edge more", talk.x.edge(sizes[at][1], 0), Bounds.BAD);
                ask.due("no position more", talk.x.position(sizes[at][4], -1), Bounds.BAD);
                ask.due("lost", talk.x.rows(1), rows[at][1]);
                if (rows[at][0] != Long.MAX_VALUE) {
                    ask.due("flat", talk.x.rows(0), rows[at][0]);
                    ask.due("besides", talk.x.rows(2), rows[at][2]);
                }
            }
        }
    }

    private void aheadOfAny() {
        ask.sentence("ahead of any it is that of an empty INPUT.");
        Talk talk = new Talk();
        talk.rule("a, b =>");
        talk.x.reload();
        talk.input("a c");
        talk.document("a b c");
        sizes("ahead of any", talk, 1, 0, 0, 1, 0);
        ask.due("version", talk.x.told(8), 0);
        ask.due("phrases", talk.x.phrases(), 1);
        ask.due("words", talk.x.phrase(0, -1), 0);
        ask.due("no word", talk.x.phrase(0, 0), Bounds.BAD);
        ask.due("weight", talk.x.weight(0), Bounds.WHOLE);
        ask.due("which", talk.which(""), 0);
        ask.due("which", talk.which("a"), Bounds.NONE);
        ask.due("heaviest", talk.x.heaviest(), 0);
        ask.due("flat", talk.x.rows(0), 1);
        ask.due("its row", talk.x.row(0, 0, -1), 0);
        ask.due("lost", talk.x.rows(1), 0);
        ask.due("besides", talk.x.rows(2), 0);
        ask.due("position", talk.x.position(0, -1), Bounds.BAD);
        ask.due("hits", talk.x.hits(), 0);
        Talk full = new Talk();
        full.rule(GraphTest.WIDE);
        full.x.reload();
        full.input("a ".repeat(16));
        ask.due("a first graph that is full", full.x.graph(), Bounds.FULL);
        sizes("ahead of any still", full, 1, 0, 0, 1, 0);
        ask.due("version", full.x.told(8), 0);
    }

    private void input() {
        ask.sentence("`int input()`: THE TEXT is THE INPUT: how many WORDS. A FAULT; FULL: there would be 201 WORDS with NUMBERS.");
        Talk talk = new Talk();
        ask.due("nothing", talk.x.input(), 0);
        ask.due("one", talk.input("a"), 1);
        ask.due("nothing again", talk.x.input(), 0);
        ask.due("told", talk.x.told(6), 0);
        talk.haveWords(199);
        ask.due("two more than 199", talk.input("b c"), Bounds.FULL);
        ask.due("told", talk.x.told(6), 0);
        ask.due("a fault goes ahead of full", talk.input("b c ^"), -14);
        ask.due("a 17th word goes ahead of full", talk.input("b c " + "a ".repeat(15)), -42);
        ask.due("one more, twice", talk.input("b a b"), 3);
        ask.due("200 words", talk.x.told(1), 200);
        ask.due("one more", talk.input("c"), Bounds.FULL);
        ask.due("one more behind 15 that are known", talk.input("a ".repeat(15) + "c"), Bounds.FULL);
        ask.due("told", talk.x.told(6), 3);
        ask.due("known ones", talk.input("a ".repeat(16)), 16);
    }

    private void longest() {
        ask.sentence("How many WORDS the longest LEFT IN FORCE has that stands at word i of THE INPUT (whatever stands before); 0: none. BAD.");
        int[] wrong = {Bounds.LEAST, -2, -1, 0, 1, 15, 16, Bounds.GREATEST};
        Talk talk = new Talk();
        for (int i : wrong) {
            ask.due("longest " + i + " of none", talk.x.longest(i), Bounds.BAD);
        }
        talk.input("a b c d a b c");
        for (int i = 0; i < 7; i++) {
            ask.due("nothing in force, " + i, talk.x.longest(i), 0);
        }
        talk.rule("a, a b c d, b c, d a b, c");
        for (int i = 0; i < 7; i++) {
            ask.due("only in the draft, " + i, talk.x.longest(i), 0);
        }
        talk.x.reload();
        int[] due = {4, 2, 1, 3, 1, 2, 1};
        for (int i = 0; i < 7; i++) {
            ask.due("longest " + i, talk.x.longest(i), due[i]);
        }
        for (int i : new int[] {Bounds.LEAST, -1, 7, 8, 16, Bounds.GREATEST}) {
            ask.due("longest " + i, talk.x.longest(i), Bounds.BAD);
        }
        talk.input("c ".repeat(16));
        ask.due("longest 15", talk.x.longest(15), 1);
        ask.due("longest 16", talk.x.longest(16), Bounds.BAD);
        talk.input("a b");
        ask.due("longest 1 of a shorter input", talk.x.longest(1), 0);
        ask.due("longest 2 of a shorter input", talk.x.longest(2), Bounds.BAD);
    }

    private void graph() {
        ask.sentence("THE GRAPH of THE INPUT by what is IN FORCE: how many NODES. FULL: more than 300 SETS.");
        Talk talk = new Talk();
        ask.due("of nothing", talk.x.graph(), 1);
        talk.rule("a => b c");
        talk.input("a");
        ask.due("the draft is not in force", talk.x.graph(), 2);
        talk.x.reload();
        ask.due("it is now", talk.x.graph(), 3);
        ask.due("again", talk.x.graph(), 3);
        talk.x.fresh();
        ask.due("and still", talk.x.graph(), 3);
        Talk full = withSets(25);
        ask.due("301 sets", full.x.graph(), Bounds.FULL);
        ask.due("again", full.x.graph(), Bounds.FULL);
        ask.due("300 sets", withSets(24).x.graph(), 300);
        ask.due("299 sets", withSets(23).x.graph(), 299);
    }

    private void size() {
        ask.sentence("Of THE GRAPH: 0 NODES, 1 EDGES, 2 MATCHES, 3 SETS, 4 POSITIONS. BAD.");
        Talk talk = Talk.graph("a q", "a => b c d, b e f, e");
        // Five different numbers, so that none can stand for another.
        sizes("all", talk, 7, 8, 2, 6, 4);
        for (Talk one : new Talk[] {new Talk(), talk, withSets(24)}) {
            for (int what : new int[] {Bounds.LEAST, -5, -1, 5, 6, Bounds.GREATEST}) {
                ask.due("size " + what, one.x.size(what), Bounds.BAD);
            }
        }
    }

    private void match() {
        ask.sentence("Of MATCH k: 0 the word of THE INPUT at which it begins, 1 how many WORDS it has, 2 the LEFT (as it was numbered then; NONE: the word alone), 3 how many ALTERNATIVES, 4 the BORDER ahead of it. BAD.");
        Talk none = new Talk();
        for (int k : new int[] {Bounds.LEAST, -1, 0, 1, Bounds.GREATEST}) {
            ask.due("match " + k + " of none", none.x.match(k, 0), Bounds.BAD);
        }
        Talk talk = Talk.graph("q a b c", "z => y", "c => d e", "a b => x, y w, p q r");
        match(talk, 0, 0, 1, Bounds.NONE, 1, 0);
        match(talk, 1, 1, 2, 2, 3, 1);
        match(talk, 2, 3, 1, 1, 1, 5);
        for (int what : new int[] {Bounds.LEAST, -2, -1, 5, 6, Bounds.GREATEST}) {
            ask.due("match 0 " + what, talk.x.match(0, what), Bounds.BAD);
            ask.due("match 2 " + what, talk.x.match(2, what), Bounds.BAD);
        }
        for (int k : new int[] {Bounds.LEAST, -1, 3, 15, 16, Bounds.GREATEST}) {
            for (int what = 0; what < 5; what++) {
                ask.due("match " + k + " " + what, talk.x.match(k, what), Bounds.BAD);
            }
        }
        talk.x.fresh();
        talk.rule("a b");
        talk.x.reload();
        match(talk, 1, 1, 2, 2, 3, 1);
        talk.x.graph();
        match(talk, 1, 1, 2, 0, 1, 1);
        Talk most = Talk.graph("a ".repeat(16));
        match(most, 15, 15, 1, Bounds.NONE, 1, 15);
        ask.due("match 16", most.x.match(16, 0), Bounds.BAD);
    }

    private void edge() {
        ask.sentence("Of EDGE k: 0 from which NODE, 1 to which, 2 the NUMBER of its WORD (NONE: it has none), 3 its TENTHS. BAD.");
        Talk none = new Talk();
        for (int k : new int[] {Bounds.LEAST, -1, 0, 1, Bounds.GREATEST}) {
            ask.due("edge " + k + " of none", none.x.edge(k, 0), Bounds.BAD);
        }
        Talk talk = Talk.graph("q a", "a => b c^3", "a =>");
        edge(talk, 0, 0, 1, 3, 10);
        edge(talk, 1, 1, 2, 1, 3);
        edge(talk, 2, 2, 3, 2, 10);
        edge(talk, 3, 1, 3, Bounds.NONE, 10);
        for (int what : new int[] {Bounds.LEAST, -2, -1, 4, 5, Bounds.GREATEST}) {
            ask.due("edge 0 " + what, talk.x.edge(0, what), Bounds.BAD);
            ask.due("edge 3 " + what, talk.x.edge(3, what), Bounds.BAD);
        }
        for (int k : new int[] {Bounds.LEAST, -1, 4, 511, 512, Bounds.GREATEST}) {
            for (int what = 0; what < 4; what++) {
                ask.due("edge " + k + " " + what, talk.x.edge(k, what), Bounds.BAD);
            }
        }
    }
}
