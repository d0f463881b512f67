import java.util.function.Consumer;
import java.util.function.ToLongFunction;

/** BAD, NONE and FULL: which of several, and that a call that is refused changes nothing but THE TEXT. */
final class RefusalBounds {
    private static final int[] EXTREMES = {Bounds.LEAST, Bounds.LEAST + 1, -1000, 1000, Bounds.GREATEST - 1, Bounds.GREATEST};
    private static final long[] LONG_EXTREMES = {Long.MIN_VALUE, Long.MIN_VALUE + 1, Integer.MIN_VALUE, -1,
        1L << 62, Long.MAX_VALUE - 1, Long.MAX_VALUE};
    private final Bounds ask;

    RefusalBounds(Bounds ask) {
        this.ask = ask;
    }

    void all() {
        badOfOneNumber();
        badOfTwoNumbers();
        badOfThreeNumbers();
        firstToldOfSeveral();
        refusedFeedAndCut();
        refusedTexts();
        refusedByFullDraft();
        refusedBy200Words();
        refusedGraph();
        badChangesNothing();
        askingChangesNothing();
        emptyInAnyCase();
    }

    /** Draft, what is in force, input, graph and document all differ. */
    private static void used(Talk talk) {
        talk.rule("a => b^5, c d");
        talk.rule("c, a =>");
        talk.x.reload();
        talk.input("e a c");
        talk.x.graph();
        talk.input("a a");
        talk.rule("b => a^3, f");
        talk.document("e b a e c d e");
    }

    private static void fullRules(Talk talk) {
        used(talk);
        for (int i = 4; i <= 24; i++) {
            talk.rule("a => b");
        }
    }

    private static void fullLefts(Talk talk) {
        talk.rule("a => b");
        for (int i = 0; i < 7; i++) {
            talk.rule("l0, l1, l2, l3, l4, l5, l6, l7 => a".replace("l", "l" + i));
        }
        talk.rule("b, c, d => a^2");
        talk.x.reload();
        talk.input("l00 a l67");
        talk.x.graph();
    }

    private static void fullAlternatives(Talk talk) {
        used(talk);
        talk.rule("z => b, c, d, e, f, g, h, i^4");
    }

    private static void fullWords(Talk talk) {
        used(talk);
        talk.haveWords(200);
    }

    private static void fullGraph(Talk talk) {
        used(talk);
        talk.rule(GraphTest.WIDE.replace("a =>", "w =>"));
        talk.x.reload();
        talk.input("w ".repeat(16));
    }

    private Talk[] states() {
        Talk[] states = {new Talk(), new Talk(), new Talk(), new Talk()};
        used(states[1]);
        fullLefts(states[2]);
        fullWords(states[3]);
        states[3].input("100 ".repeat(16));
        states[3].x.graph();
        states[3].document("100 ".repeat(40));
        return states;
    }

    private void bad(String call, long got) {
        ask.due(call, got, Bounds.BAD);
    }

    private void badOfOneNumber() {
        ask.sentence("BAD: a number is none that there is, or outside what is told");
        for (Talk talk : states()) {
            for (int one : EXTREMES) {
                bad("cut " + one, talk.x.cut(one));
                bad("told " + one, talk.x.told(one));
                bad("longest " + one, talk.x.longest(one));
                bad("size " + one, talk.x.size(one));
                bad("rows " + one, talk.x.rows(one));
                bad("hitWeight " + one, talk.x.hitWeight(one));
                bad("feed " + one, talk.x.feed(one, one, one, one));
            }
            for (long one : LONG_EXTREMES) {
                bad("weight " + one, talk.x.weight(one));
            }
        }
    }

    private void badOfTwoNumbers() {
        ask.sentence("a number is none that there is, or outside what is told");
        for (Talk talk : states()) {
            for (int one : EXTREMES) {
                for (int other : new int[] {-1, 0, one}) {
                    bad("word " + one, talk.x.word(one, other));
                    bad("left " + one, talk.x.left(one, other));
                    bad("match " + one, talk.x.match(one, other));
                    bad("edge " + one, talk.x.edge(one, other));
                    bad("position " + one, talk.x.position(one, other));
                    bad("hit " + one, talk.x.hit(one, other));
                }
                bad("word 0 " + one, talk.x.word(0, one));
                bad("left 0 " + one, talk.x.left(0, one));
                bad("match 0 " + one, talk.x.match(0, one));
                bad("edge 0 " + one, talk.x.edge(0, one));
                bad("position 0 " + one, talk.x.position(0, one));
                bad("hit 0 " + one, talk.x.hit(0, one));
                bad("phrase 0 " + one, talk.x.phrase(0, one));
            }
            for (long one : LONG_EXTREMES) {
                bad("phrase " + one, talk.x.phrase(one, -1));
                bad("phrase " + one, talk.x.phrase(one, 0));
            }
        }
    }

    private void badOfThreeNumbers() {
        ask.sentence("or outside what is told; NONE: nothing of that kind; FULL: no room.");
        for (Talk talk : states()) {
            for (int one : EXTREMES) {
                bad("alternative " + one + " 0 -1", talk.x.alternative(one, 0, -1));
                bad("alternative 0 " + one + " -1", talk.x.alternative(0, one, -1));
                bad("alternative 0 0 " + one, talk.x.alternative(0, 0, one));
                bad("alternative " + one, talk.x.alternative(one, one, one));
                bad("row " + one + " 0 -1", talk.x.row(one, 0, -1));
                for (int kind = 0; kind <= 2; kind++) {
                    bad("row " + kind + " 0 " + one, talk.x.row(kind, 0, one));
                }
            }
            for (long one : LONG_EXTREMES) {
                for (int kind = 0; kind <= 2; kind++) {
                    bad("row " + kind + " " + one, talk.x.row(kind, one, -1));
                    bad("row " + kind + " " + one, talk.x.row(kind, one, 0));
                }
            }
        }
    }

    private void firstToldOfSeveral() {
        ask.sentence("Of several the one first told in a call's comment.");
        for (int bytes : new int[] {193, 208}) {
            Talk talk = new Talk();
            talk.say("a".repeat(bytes));
            ask.due("feed: full", talk.x.feed(0x20202020, 0x20202020, 0x20202020, 0x20202020), Bounds.FULL);
            ask.due("feed: bad goes ahead of full", talk.x.feed(0x20202020, 0x20202020, 0x20202020, 0x2020201f), Bounds.BAD);
        }
        Talk rules = new Talk();
        fullRules(rules);
        ask.due("rule: full", rules.rule("a => b"), Bounds.FULL);
        ask.due("rule: a fault goes ahead of 25 rules", rules.rule("a => b, "), -18);
        Talk lefts = new Talk();
        fullLefts(lefts);
        ask.due("rule: full", lefts.rule("e"), Bounds.FULL);
        ask.due("rule: a fault goes ahead of 61 lefts", lefts.rule("e ^"), -13);
        Talk alternatives = new Talk();
        fullAlternatives(alternatives);
        ask.due("rule: full", alternatives.rule("z =>"), Bounds.FULL);
        ask.due("rule: a fault goes ahead of 9 alternatives", alternatives.rule("z => =>"), -15);
        Talk words = new Talk();
        fullWords(words);
        ask.due("rule: full", words.rule("new"), Bounds.FULL);
        ask.due("rule: a fault goes ahead of 201 words", words.rule("new abcdefghijklm"), -14);
        ask.due("input: full", words.input("new"), Bounds.FULL);
        ask.due("input: a fault goes ahead of 201 words", words.input("new,"), -13);
        ask.due("document: full", words.document("new"), Bounds.FULL);
        ask.due("document: a fault goes ahead of 201 words", words.document("new a !"), -16);
        ask.due("which: none", words.which("new"), Bounds.NONE);
        ask.due("which: a fault goes ahead of none", words.which("new =>"), -14);
    }

    /**
     * Two objects are told the same; one is then refused a call. Both must answer alike, and go on
     * alike. A call that reads THE TEXT leaves it empty, so the other one is not told it at all.
     */
    private void refused(String name, Consumer<Talk> setup, String text, boolean reads, ToLongFunction<SynonymGraphs> call,
            long due) {
        Talk one = new Talk();
        Talk other = new Talk();
        setup.accept(one);
        setup.accept(other);
        one.say(text);
        if (!reads) {
            other.say(text);
        }
        ask.due(name, call.applyAsLong(one.x), due);
        ask.same("behind " + name, Portrait.of(one.x), Portrait.of(other.x));
        goOnAlike(name, one, other);
    }

    private void goOnAlike(String name, Talk one, Talk other) {
        ask.due("the text behind " + name, one.x.which(), other.x.which());
        String[] rules = {"a => new, c d^9", "b, q => a", "a, d =>"};
        for (String rule : rules) {
            ask.due("rule behind " + name, one.rule(rule), other.rule(rule));
        }
        ask.due("reload behind " + name, one.x.reload(), other.x.reload());
        ask.due("graph behind " + name, one.x.graph(), other.x.graph());
        ask.same("then, behind " + name, Portrait.of(one.x), Portrait.of(other.x));
        ask.due("fresh behind " + name, one.x.fresh(), other.x.fresh());
        ask.due("input behind " + name, one.input("a x b"), other.input("a x b"));
        ask.due("graph behind " + name, one.x.graph(), other.x.graph());
        ask.due("document behind " + name, one.document("y a x b"), other.document("y a x b"));
        ask.same("at last, behind " + name, Portrait.of(one.x), Portrait.of(other.x));
    }

    private void refusedFeedAndCut() {
        ask.sentence("What is refused, or has a FAULT, changes nothing but THE TEXT (a call that reads it leaves it empty in any case).");
        int good = 0x62626262;
        for (int bytes : new int[] {0, 5, 193, 208}) {
            String text = "e b ".repeat(52).substring(0, bytes);
            refused("feed, bad at the end", RefusalBounds::used, text, false, x -> x.feed(good, good, good, 0x6262627f), Bounds.BAD);
            refused("feed, bad at the start", RefusalBounds::used, text, false, x -> x.feed(0x1f626262, good, good, good), Bounds.BAD);
            refused("cut above", RefusalBounds::used, text, false, x -> x.cut(bytes + 1), Bounds.BAD);
            refused("cut below", RefusalBounds::used, text, false, x -> x.cut(-1), Bounds.BAD);
        }
        for (int bytes : new int[] {193, 207, 208}) {
            String text = "e b ".repeat(52).substring(0, bytes);
            refused("feed, full", RefusalBounds::used, text, false, x -> x.feed(good, good, good, good), Bounds.FULL);
        }
    }

    private void refusedTexts() {
        ask.sentence("What is refused, or has a FAULT, changes nothing but THE TEXT");
        String[] faults = {"a => new, x y z zz |zzz", "q, new => b^10, x|!", "new, x, y,|", "b => a^10, new^|11"};
        for (String marked : faults) {
            int place = marked.indexOf('|');
            String text = marked.replace("|", "");
            refused("rule " + text, RefusalBounds::used, text, true, x -> x.rule(false), -10 - place);
            refused("rule by both " + text, RefusalBounds::used, text, true, x -> x.rule(true), -10 - place);
            refused("rule of a new object", talk -> { }, text, true, x -> x.rule(true), -10 - place);
        }
        refused("rule of nothing", RefusalBounds::used, "", true, x -> x.rule(true), -10);
        refused("input", RefusalBounds::used, "new a b, c", true, x -> x.input(), -17);
        refused("input of 17", RefusalBounds::used, "new " + "a ".repeat(16), true, x -> x.input(), -44);
        refused("document", RefusalBounds::used, "new a b => c", true, x -> x.document(), -18);
        refused("document of 41", RefusalBounds::used, "new " + "a ".repeat(40), true, x -> x.document(), -92);
        refused("which with a fault", RefusalBounds::used, "new a ^", true, x -> x.which(), -16);
        refused("which is none", RefusalBounds::used, "new a", true, x -> x.which(), Bounds.NONE);
    }

    private void refusedByFullDraft() {
        ask.sentence("What is refused, or has a FAULT, changes nothing");
        refused("a 25th rule", RefusalBounds::fullRules, "a, new => b^10, x", true, x -> x.rule(false), Bounds.FULL);
        refused("a 25th rule by both", RefusalBounds::fullRules, "new => b", true, x -> x.rule(true), Bounds.FULL);
        refused("a 61st left", RefusalBounds::fullLefts, "l00, new => b^10, x", true, x -> x.rule(false), Bounds.FULL);
        refused("a 61st left by both", RefusalBounds::fullLefts, "d => a^10, new", true, x -> x.rule(true), Bounds.FULL);
        refused("a ninth alternative", RefusalBounds::fullAlternatives, "new, z => i^10, x", true, x -> x.rule(false), Bounds.FULL);
        refused("a ninth alternative without a word", RefusalBounds::fullAlternatives, "new, a, z =>", true, x -> x.rule(false), Bounds.FULL);
        refused("a ninth alternative by both", RefusalBounds::fullAlternatives, "a, new => b^9, z", true, x -> x.rule(true), Bounds.FULL);
    }

    private void refusedBy200Words() {
        ask.sentence("changes nothing but THE TEXT (a call that reads it leaves it empty in any case).");
        refused("a rule", RefusalBounds::fullWords, "a => b^10, new", true, x -> x.rule(false), Bounds.FULL);
        refused("a rule by both", RefusalBounds::fullWords, "new => a^10, b", true, x -> x.rule(true), Bounds.FULL);
        refused("an input", RefusalBounds::fullWords, "a b new", true, x -> x.input(), Bounds.FULL);
        refused("a document", RefusalBounds::fullWords, "a b new", true, x -> x.document(), Bounds.FULL);
        // One word would still be taken: none of two may stay.
        Consumer<Talk> oneLess = talk -> {
            used(talk);
            talk.haveWords(199);
        };
        refused("a rule of two new words", oneLess, "a => x1, x2", true, x -> x.rule(false), Bounds.FULL);
        refused("an input of two new words", oneLess, "x1 a x2", true, x -> x.input(), Bounds.FULL);
        refused("a document of two new words", oneLess, "x1 x2", true, x -> x.document(), Bounds.FULL);
    }

    private void refusedGraph() {
        ask.sentence("What is refused");
        refused("a graph", RefusalBounds::fullGraph, "a b", false, x -> x.graph(), Bounds.FULL);
        refused("a graph twice", RefusalBounds::fullGraph, "", false, x -> Math.max(x.graph(), x.graph()), Bounds.FULL);
        Consumer<Talk> none = talk -> {
            talk.rule(GraphTest.WIDE);
            talk.x.reload();
            talk.input("a ".repeat(16));
        };
        refused("a first graph", none, "", false, x -> x.graph(), Bounds.FULL);
    }

    private void badChangesNothing() {
        ask.sentence("What is refused, or has a FAULT, changes");
        refused("told", RefusalBounds::used, "a b", false, x -> x.told(9), Bounds.BAD);
        refused("word", RefusalBounds::used, "a b", false, x -> x.word(-1, 0), Bounds.BAD);
        refused("left", RefusalBounds::used, "a b", false, x -> x.left(9, -3), Bounds.BAD);
        refused("alternative", RefusalBounds::used, "a b", false, x -> x.alternative(0, 9, 0), Bounds.BAD);
        refused("longest", RefusalBounds::used, "a b", false, x -> x.longest(2), Bounds.BAD);
        refused("size", RefusalBounds::used, "a b", false, x -> x.size(5), Bounds.BAD);
        refused("match", RefusalBounds::used, "a b", false, x -> x.match(3, 0), Bounds.BAD);
        refused("edge", RefusalBounds::used, "a b", false, x -> x.edge(0, 4), Bounds.BAD);
        refused("phrase", RefusalBounds::used, "a b", false, x -> x.phrase(99, 0), Bounds.BAD);
        refused("weight", RefusalBounds::used, "a b", false, x -> x.weight(-1), Bounds.BAD);
        refused("position", RefusalBounds::used, "a b", false, x -> x.position(9, 0), Bounds.BAD);
        refused("rows", RefusalBounds::used, "a b", false, x -> x.rows(3), Bounds.BAD);
        refused("row", RefusalBounds::used, "a b", false, x -> x.row(2, 99, 0), Bounds.BAD);
        refused("hit", RefusalBounds::used, "a b", false, x -> x.hit(9, 0), Bounds.BAD);
        refused("hitWeight", RefusalBounds::used, "a b", false, x -> x.hitWeight(9), Bounds.BAD);
    }

    private void askingChangesNothing() {
        ask.sentence("Nothing is promised beyond the answers and state changes described above");
        for (Talk talk : states()) {
            talk.say("a b");
            String first = Portrait.of(talk.x);
            ask.same("asked again", Portrait.of(talk.x), first);
        }
    }

    private void emptyInAnyCase() {
        ask.sentence("(a call that reads it leaves it empty in any case)");
        String[] texts = {"", "a", "new", "a,", "!", " ", "a b c d e f g h i j k l m n o p q", "a ".repeat(104), "!".repeat(208)};
        for (Consumer<Talk> setup : java.util.List.<Consumer<Talk>>of(talk -> { }, RefusalBounds::used, RefusalBounds::fullWords)) {
            for (String reader : new String[] {"rule", "input", "document", "which"}) {
                for (String text : texts) {
                    Talk talk = new Talk();
                    setup.accept(talk);
                    TextBounds.read(talk, reader, text);
                    ask.due("the text behind " + reader + " of " + text, talk.x.told(0), 0);
                }
            }
        }
        Talk talk = new Talk();
        talk.say("a b");
        talk.x.fresh();
        talk.x.reload();
        talk.x.graph();
        talk.x.hits();
        ask.due("calls that do not read it", talk.x.told(0), 3);
    }
}
