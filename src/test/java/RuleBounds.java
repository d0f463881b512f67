/** Bounds of section 2, RULES, and of promises 6 to 10. */
final class RuleBounds {
    private final Bounds ask;

    RuleBounds(Bounds ask) {
        this.ask = ask;
    }

    void all() {
        greatNumbers();
        eachIsALeft();
        alternativeWithoutWord();
        tenthsOfAlternatives();
        bothIsNothing();
        twentyFourRules();
        leftsAreOne();
        greatestTenths();
        eightAlternatives();
        sixtyLefts();
        inForce();
        fewerInForce();
        leads();
        leadsByParts();
        leadsByGreatNumbers();
        goesRound();
        sixtyGoRound();
        rule();
        fresh();
        reload();
        left();
        alternative();
    }

    /** All lefts in force, each with its alternatives. */
    private static String inForce(Talk talk) {
        StringBuilder all = new StringBuilder();
        for (int l = 0; l < talk.x.told(4); l++) {
            all.append(l == 0 ? "" : "; ").append(talk.left(l)).append(": ").append(talk.alternatives(l));
        }
        return all.toString();
    }

    /** What comes into force by rules, those with a ! ahead of them by BOTH. */
    private static String inForce(String... rules) {
        Talk talk = new Talk();
        for (String rule : rules) {
            if (rule.startsWith("!")) {
                talk.both(rule.substring(1));
            } else {
                talk.rule(rule);
            }
        }
        talk.x.reload();
        return inForce(talk);
    }

    private void greatNumbers() {
        ask.sentence("A PHRASE is a row of WORDS.");
        int[] numbers = {0, 63, 64, 126, 127, 128, 198, 199};
        for (int words = 1; words <= 4; words++) {
            Talk talk = new Talk();
            talk.haveWords(200);
            for (int number : numbers) {
                String row = " 100".repeat(words - 1) + " " + (number + 100);
                talk.rule(row + " => " + row + ", " + (number + 100));
            }
            talk.x.reload();
            ask.due("lefts", talk.x.told(4), numbers.length);
            for (int l = 0; l < numbers.length; l++) {
                ask.due("words of left " + l, talk.x.left(l, -1), words);
                ask.due("words of its alternative", talk.x.alternative(l, 0, -1), words);
                ask.due("its last word", talk.x.left(l, words - 1), numbers[l]);
                ask.due("its alternative's last word", talk.x.alternative(l, 0, words - 1), numbers[l]);
                ask.due("its first word", talk.x.left(l, 0), words == 1 ? numbers[l] : 0);
                ask.due("behind it", talk.x.left(l, words), Bounds.BAD);
            }
        }
    }

    private void eachIsALeft() {
        ask.sentence("A RULE without =>: each of its SIDES is a LEFT, and all of them (itself, too), as they stand, are its ALTERNATIVES.");
        ask.same("one side", inForce("a b c d^1"), "a b c d: a b c d^1");
        ask.same("two sides", inForce("b^2, a b"), "b: b^2, a b^10; a b: b^2, a b^10");
        Talk talk = new Talk();
        talk.rule("h, g, f^3, e, d, c, b, a");
        talk.x.reload();
        ask.due("lefts of eight sides", talk.x.told(4), 8);
        for (int l = 0; l < 8; l++) {
            ask.due("left " + l, talk.x.left(l, 0), l);
            ask.same("its alternatives", talk.alternatives(l), "h^10, g^10, f^3, e^10, d^10, c^10, b^10, a^10");
        }
    }

    private void alternativeWithoutWord() {
        ask.sentence("With =>: each SIDE ahead is a LEFT, those behind, as they stand, are its ALTERNATIVES; if there are none, one without a WORD.");
        ask.same("none behind", inForce("a, b c =>"), "a: ^10; b c: ^10");
        ask.same("one behind", inForce("a, b c => d"), "a: d^10; b c: d^10");
        ask.same("itself behind", inForce("a => a"), "a: a^10");
        ask.same("without =>", inForce("a"), "a: a^10");
        ask.same("none behind, then one", inForce("a =>", "a => b"), "a: ^10, b^10");
        ask.same("one behind, then none", inForce("a => b", "a =>", "a =>"), "a: b^10, ^10");
    }

    private void tenthsOfAlternatives() {
        ask.sentence("An ALTERNATIVE has the TENTHS of its SIDE (10 without; that without a WORD has 10); TENTHS of a SIDE ahead of => count where it is an ALTERNATIVE by BOTH.");
        ask.same("least and greatest", inForce("a => b^1, c^10, d"), "a: b^1, c^10, d^10");
        ask.same("without a word", inForce("a^1 =>"), "a: ^10");
        ask.same("ahead", inForce("a^1, b^2 => c^3"), "a: c^3; b: c^3");
        ask.same("ahead, by both", inForce("!a^1, b^2 => c^3"), "a: c^3; b: c^3; c: a^1, b^2");
        ask.same("without =>", inForce("a^1, b"), "a: a^1, b^10; b: a^1, b^10");
    }

    private void bothIsNothing() {
        ask.sentence("BOTH (only with SIDES behind =>; else it is nothing): behind all that, each SIDE behind is a LEFT, too, and those ahead are its ALTERNATIVES.");
        ask.same("without =>", inForce("!a, b^5"), inForce("a, b^5"));
        ask.same("none behind", inForce("!a^5, b =>"), "a: ^10; b: ^10");
        ask.same("one behind", inForce("!a => b"), "a: b^10; b: a^10");
        ask.same("behind all that", inForce("!a, b => c, a"), "a: c^10, a^10, b^10; b: c^10, a^10; c: a^10, b^10");
        ask.same("itself", inForce("!a^4 => a^2"), "a: a^4");
        ask.same("eight and eight", inForce("!a,b,c,d,e,f,g,h => i").substring(0, 19), "a: i^10; b: i^10; c");
    }

    private void twentyFourRules() {
        ask.sentence("THE DRAFT has RULES, 24 at most.");
        Talk talk = new Talk();
        for (int i = 1; i <= 24; i++) {
            ask.due("rule " + i, talk.rule("a =>"), i);
            ask.due("rules", talk.x.told(2), i);
        }
        ask.due("rule 25", talk.rule("a =>"), Bounds.FULL);
        ask.due("rule 25 by both", talk.both("b => c"), Bounds.FULL);
        ask.due("rules", talk.x.told(2), 24);
        talk.x.reload();
        ask.due("in force there are none to count", talk.rule("a"), Bounds.FULL);
        ask.due("fresh", talk.x.fresh(), 24);
        ask.due("rule 1", talk.rule("a"), 1);
    }

    private void leftsAreOne() {
        ask.sentence("LEFTS that are the same PHRASE are one, numbered 0, 1, .. as they first came; its ALTERNATIVES are all that the RULES tell, in order");
        ask.same("the same in one rule", inForce("b, a, b, a"), "b: b^10, a^10; a: b^10, a^10");
        ask.same("the same in two rules", inForce("b => x", "a => y", "b => z"), "b: x^10, z^10; a: y^10");
        ask.same("one begins the other", inForce("a b => x", "a => y", "a b c => z"), "a b: x^10; a: y^10; a b c: z^10");
        ask.same("another order of words", inForce("a b => x", "b a => y"), "a b: x^10; b a: y^10");
        ask.same("by both", inForce("!b => a", "a => c"), "b: a^10; a: b^10, c^10");
    }

    private void greatestTenths() {
        ask.sentence("the same PHRASE stands once among them, where it first came, with the greatest TENTHS that it was told with.");
        ask.same("rising", inForce("a => b^1, c, b^10"), "a: b^10, c^10");
        ask.same("falling", inForce("a => b^10, c, b^1"), "a: b^10, c^10");
        ask.same("in the midst", inForce("a => b^2, b^9, b^3"), "a: b^9");
        ask.same("in two rules", inForce("a => b^3, c^4", "a => c^5, b^2"), "a: b^3, c^5");
        ask.same("by both", inForce("!a => b^3", "!b^7 => a"), "a: b^7; b: a^10");
        ask.same("one begins the other", inForce("a => b c^3, b^4, b c^5"), "a: b c^5, b^4");
        ask.same("each left its own", inForce("a, x => b^3", "a => b^6"), "a: b^6; x: b^3");
    }

    private void eightAlternatives() {
        ask.sentence("A LEFT has 8 ALTERNATIVES at most");
        Talk talk = new Talk();
        talk.rule("a => b, c, d, e, f, g, h");
        ask.due("an eighth and a ninth", talk.rule("a => i, j"), Bounds.FULL);
        ask.due("an eighth", talk.rule("a => i"), 2);
        ask.due("a ninth", talk.rule("a => j"), Bounds.FULL);
        ask.due("a ninth without a word", talk.rule("a =>"), Bounds.FULL);
        ask.due("a ninth by both", talk.both("j => a"), Bounds.FULL);
        ask.due("a ninth, itself", talk.rule("a"), Bounds.FULL);
        ask.due("a ninth of the second left", talk.rule("j, a => k"), Bounds.FULL);
        ask.due("known ones", talk.rule("a => b, c, d, e, f, g, h, i"), 3);
        talk.x.reload();
        ask.due("alternatives", talk.x.left(0, -2), 8);
        ask.due("the eighth", talk.x.alternative(0, 7, -1), 1);
        ask.due("the ninth", talk.x.alternative(0, 8, -1), Bounds.BAD);
        Talk none = new Talk();
        none.rule("a => b, c, d, e, f, g, h");
        ask.due("an eighth without a word", none.rule("a =>"), 2);
        ask.due("again", none.rule("a =>"), 3);
        ask.due("a ninth", none.rule("a => i"), Bounds.FULL);
        ask.due("eight that are each other's", new Talk().rule("a, b, c, d, e, f, g, h"), 1);
        ask.due("eight by both", new Talk().both("a, b, c, d, e, f, g, h => i"), 1);
        ask.due("seven and one by both", new Talk().both("a, b, c, d, e, f, g, h => b, c, d, e, f, g, h, a"), 1);
        ask.due("eight and one by both", new Talk().both("a, b, c, d, e, f, g, h => a, i, j, k, l, m, n, o"), Bounds.FULL);
    }

    /** A draft of so many lefts, 56 at most, each eight by a rule. */
    private static Talk withLefts(int lefts) {
        Talk talk = new Talk();
        for (int first = 0; first < lefts; first += 8) {
            StringBuilder rule = new StringBuilder();
            for (int l = first; l < lefts && l < first + 8; l++) {
                rule.append(l == first ? "" : ",").append("l").append(l);
            }
            talk.rule(rule.append("=> z").toString());
        }
        return talk;
    }

    private void sixtyLefts() {
        ask.sentence("THE DRAFT 60 LEFTS.");
        String[] atMost = {"a, b", "a, b =>", "a, b => c", "a, b, l0 => z", "!a => b"};
        String[] above = {"a, b, c", "a, b, c =>", "a, b, c => d", "a, b, l0, c => z", "!a, b => c", "!a => b, c", "!l0 => a, b, c"};
        for (String rule : atMost) {
            Talk talk = withLefts(58);
            ask.due("58 lefts", talk.x.told(3), 58);
            ask.due("two more: " + rule, tell(talk, rule), 9);
            ask.due("60 lefts", talk.x.told(3), 60);
            ask.due("one more", talk.rule("q"), Bounds.FULL);
            ask.due("a known one", talk.rule("l57 => q"), 10);
            talk.x.reload();
            ask.due("60 in force", talk.x.told(4), 60);
            ask.due("left 59", talk.x.left(59, -1), 1);
            ask.due("left 60", talk.x.left(60, -1), Bounds.BAD);
        }
        for (String rule : above) {
            Talk talk = withLefts(58);
            ask.due("three more: " + rule, tell(talk, rule), Bounds.FULL);
            ask.due("58 lefts", talk.x.told(3), 58);
            ask.due("one more", talk.rule("q"), 9);
            ask.due("59 lefts", talk.x.told(3), 59);
            ask.due("two more", talk.rule("r, s"), Bounds.FULL);
            ask.due("one more", talk.rule("r"), 10);
            ask.due("60 lefts", talk.x.told(3), 60);
        }
    }

    private static int tell(Talk talk, String rule) {
        return rule.startsWith("!") ? talk.both(rule.substring(1)) : talk.rule(rule);
    }

    private void inForce() {
        ask.sentence("IN FORCE is THE DRAFT as it was at the latest reload(): none at first.");
        Talk talk = new Talk();
        ask.due("at first", talk.x.told(4), 0);
        talk.rule("a => b");
        ask.due("without a reload", talk.x.told(4), 0);
        ask.due("its left", talk.x.left(0, -1), Bounds.BAD);
        talk.x.reload();
        ask.same("by a reload", inForce(talk), "a: b^10");
        talk.rule("a => c");
        talk.rule("d => e");
        ask.same("as it was", inForce(talk), "a: b^10");
        talk.x.fresh();
        ask.same("as it was", inForce(talk), "a: b^10");
        talk.rule("f");
        talk.x.reload();
        ask.same("by the latest", inForce(talk), "f: f^10");
        talk.x.fresh();
        talk.x.reload();
        ask.due("none again", talk.x.told(4), 0);
    }

    private void fewerInForce() {
        ask.sentence("as it was at the latest reload()");
        Talk talk = withLefts(56);
        talk.rule("p, q, r, s");
        talk.x.reload();
        ask.due("60 in force", talk.x.told(4), 60);
        talk.x.fresh();
        talk.rule("a => b");
        talk.x.reload();
        ask.due("one in force", talk.x.told(4), 1);
        ask.due("alternatives of left 0", talk.x.left(0, -2), 1);
        ask.due("alternative 1 of left 0", talk.x.alternative(0, 1, -1), Bounds.BAD);
        for (int l = 1; l <= 60; l++) {
            ask.due("left " + l, talk.x.left(l, -1), Bounds.BAD);
            ask.due("whether it goes round", talk.x.left(l, -3), Bounds.BAD);
            ask.due("its alternative", talk.x.alternative(l, 0, -1), Bounds.BAD);
        }
    }

    private void round(String rules, String due) {
        round(new Talk(), rules, due);
    }

    private void round(Talk talk, String rules, String due) {
        for (String rule : rules.split("; ")) {
            talk.rule(rule);
        }
        talk.x.reload();
        ask.due("lefts of " + rules, talk.x.told(4), due.length());
        for (int l = 0; l < due.length(); l++) {
            ask.due("left " + l + " of " + rules, talk.x.left(l, -3), due.charAt(l) - '0');
        }
    }

    private void leads() {
        ask.sentence("A LEFT of those IN FORCE LEADS to another one (or itself), if one of its ALTERNATIVES, but the one that is the same PHRASE as it is itself, has the other one's WORDS");
        round("a", "0");
        round("a => a", "0");
        round("a b c d => a b c d", "0");
        round("a => a a", "1");
        round("a => a, b a", "1");
        round("a =>", "0");
        round("a => b; a =>", "0");
        round("a, b", "11");
        round("a => b; b => b", "00");
        round("a => b; b => a", "11");
        round("a => b, c, d, e, f, g, h, x a", "1");
        round("a => x a, c, d, e, f, g, h, b", "1");
        Talk draft = new Talk();
        draft.rule("a => b");
        draft.x.reload();
        draft.rule("b => a");
        ask.due("of those in force", draft.x.left(0, -3), 0);
        draft.x.reload();
        ask.due("of those in force now", draft.x.left(0, -3), 1);
        draft.x.fresh();
        ask.due("not of the draft", draft.x.left(1, -3), 1);
    }

    private void leadsByParts() {
        ask.sentence("has the other one's WORDS, one behind the other, somewhere in it.");
        round("a => a b c d", "1");
        round("a => b a c d", "1");
        round("a => b c a d", "1");
        round("a => b c d a", "1");
        round("a => b c d e", "0");
        round("a b => a b c d", "1");
        round("a b => c a b d", "1");
        round("a b => c d a b", "1");
        round("a b => a c b d", "0");
        round("a b => b a b", "1");
        round("a b => b a", "0");
        round("a b => a; a => b", "00");
        round("a b => b b a a", "0");
        round("a b c => d a b c", "1");
        round("a b c => a b c d", "1");
        round("a b c => a b d c", "0");
        round("a b c => a b", "0");
        round("a b c d => a b c", "0");
        round("a b c d => e; e => a b c d", "11");
        round("a b c d => e; e => a b c c", "00");
        round("a b c d => d c b a; d c b a => a b c d", "11");
    }

    private void leadsByGreatNumbers() {
        ask.sentence("has the other one's WORDS, one behind the other");
        // Words 0 and 128, 71 and 199: half the numbers a byte has lie between them.
        String[][] all = {{"100 => 228", "0"}, {"228 => 100", "0"}, {"100 => 228; 228 => 100", "11"}, {"228 => 228 100", "1"},
            {"299 => 171", "0"}, {"171 => 299 299 299 299", "0"}, {"299 => 100 100 100 299", "1"},
            {"100 299 => 100 171 101 171", "0"}, {"100 299 => 101 102 100 299", "1"}, {"299 100 => 171 100 171 100", "0"},
            {"228 299 298 => 101 228 299 298", "1"}, {"228 299 298 => 101 100 299 298", "0"},
            {"299 299 299 299 => 299 299 299", "0"}, {"299 299 299 => 299 299 299 299", "1"},
            {"299 298 297 296 => 295; 295 => 299 298 297 296", "11"}};
        for (String[] one : all) {
            Talk talk = new Talk();
            talk.haveWords(200);
            round(talk, one[0], one[1]);
        }
    }

    private void goesRound() {
        ask.sentence("It GOES ROUND, if it LEADS to itself by one step or more.");
        round("a => b; b => c; c => a", "111");
        round("a => b; b => c; c => b", "011");
        round("a => b; b => a; b => c; c => d", "110");
        StringBuilder ring = new StringBuilder();
        StringBuilder backwards = new StringBuilder();
        for (int i = 0; i < 23; i++) {
            ring.append("x").append(i).append(" => x").append(i + 1).append("; ");
            backwards.append("x").append(i + 1).append(" => x").append(i).append("; ");
        }
        round(ring + "x23 => x0", "1".repeat(24));
        round(ring + "x23 => y", "0".repeat(24));
        round(ring + "x23 => x23 y", "0".repeat(23) + "1");
        round(backwards + "x0 => x23", "1".repeat(24));
        round(backwards + "x0 => y", "0".repeat(24));
    }

    private void sixtyGoRound() {
        ask.sentence("by one step or more.");
        StringBuilder ring = new StringBuilder();
        for (int i = 0; i < 20; i++) {
            int next = (i + 1) % 20;
            ring.append(i == 0 ? "" : "; ");
            ring.append(String.format("a%1$d, b%1$d, c%1$d => a%2$d b%2$d c%2$d", i, next));
        }
        round(ring.toString(), "1".repeat(60));
        Talk last = withLefts(56);
        last.rule("p, q, r => z");
        last.rule("s => s z");
        last.x.reload();
        for (int l = 0; l < 60; l++) {
            ask.due("left " + l, last.x.left(l, -3), l == 59 ? 1 : 0);
        }
        Talk full = withLefts(56);
        full.rule("p, q, r => z");
        full.rule("s => a, b, c, d, e, f, g, s h");
        full.x.reload();
        ask.due("left 59 by the eighth", full.x.left(59, -3), 1);
        ask.due("left 58", full.x.left(58, -3), 0);
    }

    private void rule() {
        ask.sentence("THE TEXT is a RULE more of THE DRAFT: how many it has. A FAULT; FULL: there would be 25 RULES, 61 LEFTS, 9 ALTERNATIVES of a LEFT, or 201 WORDS.");
        Talk talk = new Talk();
        ask.due("nothing", talk.rule(""), -10);
        ask.due("the first", talk.rule("a"), 1);
        ask.due("the same again", talk.rule("a"), 2);
        Talk rules = new Talk();
        for (int i = 0; i < 24; i++) {
            rules.rule("a");
        }
        ask.due("a fault goes ahead of 25 rules", rules.rule("a,"), -12);
        ask.due("25 rules", rules.rule("a"), Bounds.FULL);
        Talk lefts = withLefts(56);
        lefts.rule("a, b, c, d");
        ask.due("a fault goes ahead of 61 lefts", lefts.rule("e f g h i"), -18);
        ask.due("61 lefts", lefts.rule("e f g h"), Bounds.FULL);
        Talk alternatives = new Talk();
        alternatives.rule("a => b, c, d, e, f, g, h, i");
        ask.due("a fault goes ahead of 9 alternatives", alternatives.rule("a => j^"), -17);
        ask.due("9 alternatives", alternatives.rule("a => j"), Bounds.FULL);
        Talk words = new Talk();
        words.haveWords(200);
        ask.due("a fault goes ahead of 201 words", words.rule("a ="), -12);
        ask.due("201 words", words.rule("a"), Bounds.FULL);
        ask.due("200 words", words.rule("100, 299"), 1);
        ask.due("tenths are no words", words.rule("100^3, 299^10"), 2);
    }

    private void fresh() {
        ask.sentence("THE DRAFT is empty: how many RULES it had.");
        Talk talk = new Talk();
        ask.due("of nothing", talk.x.fresh(), 0);
        for (int rules : new int[] {1, 23, 24}) {
            for (int i = 1; i <= rules; i++) {
                talk.rule("a, b");
            }
            ask.due("of " + rules, talk.x.fresh(), rules);
            ask.due("rules", talk.x.told(2), 0);
            ask.due("lefts", talk.x.told(3), 0);
            ask.due("again", talk.x.fresh(), 0);
        }
        talk.rule("c => d");
        talk.x.reload();
        ask.same("nothing is left of what went", inForce(talk), "c: d^10");
        talk.input("a c");
        talk.document("a");
        talk.say("abc");
        talk.x.fresh();
        long[] due = {3, 4, 0, 0, 1, 1, 2, 1, 0};
        for (int what = 0; what < due.length; what++) {
            ask.due("told " + what + " behind fresh", talk.x.told(what), due[what]);
        }
    }

    private void reload() {
        ask.sentence("THE DRAFT, which stays, is IN FORCE: the VERSION.");
        Talk talk = new Talk();
        ask.due("of nothing", talk.x.reload(), 1);
        ask.due("of nothing again", talk.x.reload(), 2);
        talk.rule("a, b");
        talk.say("abc");
        ask.due("of a rule", talk.x.reload(), 3);
        ask.due("of the same", talk.x.reload(), 4);
        long[] due = {3, 2, 1, 2, 2, 4, 0, 0, 0};
        for (int what = 0; what < due.length; what++) {
            ask.due("told " + what, talk.x.told(what), due[what]);
        }
    }

    private void left() {
        ask.sentence("Of LEFT l IN FORCE the NUMBER of its i-th WORD; i = -1: how many WORDS, -2: how many ALTERNATIVES, -3: whether it GOES ROUND (1, 0). BAD.");
        Talk talk = new Talk();
        int[] extremes = {Bounds.LEAST, -1, 0, 1, Bounds.GREATEST};
        for (int l : extremes) {
            for (int i : new int[] {Bounds.LEAST, -4, -3, -2, -1, 0, Bounds.GREATEST}) {
                ask.due("left " + l + " " + i + " of none", talk.x.left(l, i), Bounds.BAD);
            }
        }
        talk.rule("d c b a => a, b");
        talk.rule("e =>");
        talk.rule("f => f f");
        talk.x.reload();
        long[][] due = {{0, 2, 4}, {0, 1, 1}, {1, 1, 1}};
        for (int l = 0; l < 3; l++) {
            for (int i = -3; i <= -1; i++) {
                ask.due("left " + l + " " + i, talk.x.left(l, i), due[l][i + 3]);
            }
            int words = talk.x.left(l, -1);
            for (int i : new int[] {Bounds.LEAST, -5, -4, words, words + 1, Bounds.GREATEST}) {
                ask.due("left " + l + " " + i, talk.x.left(l, i), Bounds.BAD);
            }
        }
        for (int i = 0; i < 4; i++) {
            ask.due("left 0 " + i, talk.x.left(0, i), i);
        }
        ask.due("left 1 0", talk.x.left(1, 0), 4);
        for (int l : new int[] {Bounds.LEAST, -1, 3, 59, 60, Bounds.GREATEST}) {
            for (int i = -3; i <= 0; i++) {
                ask.due("left " + l + " " + i, talk.x.left(l, i), Bounds.BAD);
            }
        }
    }

    private void alternative() {
        ask.sentence("Of ALTERNATIVE a of LEFT l IN FORCE the NUMBER of its i-th WORD; i = -1: how many WORDS, -2: TENTHS. BAD.");
        Talk talk = new Talk();
        for (int one : new int[] {Bounds.LEAST, -1, 0, 1, Bounds.GREATEST}) {
            ask.due("alternative of none", talk.x.alternative(one, 0, -1), Bounds.BAD);
            ask.due("alternative of none", talk.x.alternative(0, one, -1), Bounds.BAD);
            ask.due("alternative of none", talk.x.alternative(0, 0, one), Bounds.BAD);
        }
        talk.rule("a => b^1, d c b a");
        talk.rule("a =>");
        talk.rule("e => f");
        talk.x.reload();
        int[] words = {1, 4, 0};
        int[] tenths = {1, 10, 10};
        for (int a = 0; a < 3; a++) {
            ask.due("words of " + a, talk.x.alternative(0, a, -1), words[a]);
            ask.due("tenths of " + a, talk.x.alternative(0, a, -2), tenths[a]);
            for (int i : new int[] {Bounds.LEAST, -4, -3, words[a], words[a] + 1, Bounds.GREATEST}) {
                ask.due("alternative 0 " + a + " " + i, talk.x.alternative(0, a, i), Bounds.BAD);
            }
        }
        int[] numbers = {2, 3, 1, 0};
        for (int i = 0; i < 4; i++) {
            ask.due("word " + i, talk.x.alternative(0, 1, i), numbers[i]);
        }
        for (int wrong : new int[] {Bounds.LEAST, -1, 3, 8, 60, Bounds.GREATEST}) {
            ask.due("alternative 2 0 " + wrong, talk.x.alternative(2, 0, wrong), Bounds.BAD);
            for (int i = -2; i <= 0; i++) {
                ask.due("alternative 0 " + wrong + " " + i, talk.x.alternative(0, wrong, i), Bounds.BAD);
                ask.due("alternative " + wrong + " 0 " + i, talk.x.alternative(wrong, 0, i), Bounds.BAD);
            }
        }
        ask.due("each left has its own", talk.x.alternative(1, 1, -1), Bounds.BAD);
        ask.due("its own", talk.x.alternative(1, 0, 0), 5);
    }
}
