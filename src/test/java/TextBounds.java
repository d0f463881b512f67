import java.util.regex.Matcher;
import java.util.regex.Pattern;

/** Bounds of TEXTS, TOKENS and FAULTS, and of promises 1 to 5. */
final class TextBounds {
    private static final String[] READERS = {"rule", "input", "document", "which"};
    private final Bounds ask;

    TextBounds(Bounds ask) {
        this.ask = ask;
    }

    void all() {
        fiveHundredAndTwelveCalls();
        textOf208Bytes();
        wordsOf12Bytes();
        everyByte();
        blanks();
        numbers();
        twoHundredNumbers();
        tenths();
        shapesOfRules();
        shapesOfRows();
        placesOfFaults();
        whatIsNoToken();
        whatCantCome();
        fifthWord();
        ninthSide();
        behindCaret();
        wordsAboveTheMost();
        newObject();
        feed();
        cut();
        told();
        toldOfAFullObject();
        word();
    }

    /** The text goes to one of the four calls that read it. */
    static long read(Talk talk, String reader, String text) {
        return switch (reader) {
            case "rule" -> talk.rule(text);
            case "input" -> talk.input(text);
            case "document" -> talk.document(text);
            default -> talk.which(text);
        };
    }

    /** A rule with a | where its fault is due; without one it is taken. */
    private void rule(String marked) {
        int place = marked.indexOf('|');
        String text = marked.replace("|", "");
        long due = place < 0 ? 1 : -10 - place;
        ask.due("rule(false) of " + text, new Talk().rule(text), due);
        ask.due("rule(true) of " + text, new Talk().both(text), due);
    }

    private void fiveHundredAndTwelveCalls() {
        ask.sentence("An object is used for at most 512 calls after it has been made; what later calls answer is free.");
        SynonymGraphs x = new SynonymGraphs();
        for (int i = 1; i <= 512; i++) {
            ask.due("call " + i + ", reload", x.reload(), i);
        }
        SynonymGraphs y = new SynonymGraphs();
        for (int i = 1; i <= 511; i++) {
            y.graph();
        }
        ask.due("call 512, phrases", y.phrases(), 1);
        // What they answer is free, but no call may ever throw.
        for (int i = 0; i < 20; i++) {
            Portrait.of(x);
            x.feed(0x61626364, 0x61203d3e, 0x20622063, 0x2c206420);
            x.rule(true);
            x.reload();
            x.graph();
        }
    }

    private void textOf208Bytes() {
        ask.sentence("THE TEXT has up to 208 bytes 32 .. 126.");
        for (int bytes = 191; bytes <= 193; bytes++) {
            Talk talk = new Talk();
            ask.due("say " + bytes, talk.say("~".repeat(bytes)), bytes);
            int due = bytes <= 192 ? bytes + 16 : Bounds.FULL;
            ask.due("feed behind " + bytes, talk.x.feed(0x20202020, 0x20202020, 0x7e7e7e7e, 0x7e7e7e7e), due);
            ask.due("bytes", talk.x.told(0), bytes <= 192 ? bytes + 16 : bytes);
        }
        for (int place = 0; place < 16; place++) {
            for (int one : new int[] {0, 1, 31, 32, 33, 125, 126, 127, 128, 129, 254, 255}) {
                SynonymGraphs x = new SynonymGraphs();
                boolean good = one >= 32 && one <= 126;
                ask.due("byte " + one + " at " + place, feedWith(x, place, one), good ? 16 : Bounds.BAD);
                ask.due("bytes", x.told(0), good ? 16 : 0);
            }
        }
    }

    private static int feedWith(SynonymGraphs x, int place, int one) {
        int[] fours = {0x61616161, 0x61616161, 0x61616161, 0x61616161};
        int shift = 24 - 8 * (place % 4);
        fours[place / 4] = fours[place / 4] & ~(255 << shift) | one << shift;
        return x.feed(fours[0], fours[1], fours[2], fours[3]);
    }

    private void wordsOf12Bytes() {
        ask.sentence("WORDS (1 to 12 bytes a .. z, 0 .. 9; each as long as can be)");
        for (String reader : READERS) {
            boolean asks = reader.equals("which");
            for (int bytes = 1; bytes <= 14; bytes++) {
                Talk talk = new Talk();
                long due = bytes > 12 ? -10 : asks ? Bounds.NONE : 1;
                ask.due(reader + " of a word of " + bytes, read(talk, reader, "z".repeat(bytes)), due);
                ask.due("bytes of the word", talk.x.word(0, -1), bytes > 12 || asks ? Bounds.BAD : bytes);
            }
            ask.due(reader + " of 208 bytes", read(new Talk(), reader, "9".repeat(208)), -10);
            ask.due(reader + " of 12 and 13", read(new Talk(), reader, "abcdefghijkl abcdefghijklm"), -23);
        }
        ask.due("one word, not four", new Talk().input("a1b2"), 1);
        ask.due("two words of 12", new Talk().input("abcdefghijkl abcdefghijkl"), 2);
    }

    private void everyByte() {
        ask.sentence("\",\" \"^\" and \"=>\"");
        for (int one = 32; one <= 126; one++) {
            boolean ofWord = one >= 'a' && one <= 'z' || one >= '0' && one <= '9';
            String text = String.valueOf((char) one);
            for (String reader : READERS) {
                if (!reader.equals("rule")) {
                    boolean asks = reader.equals("which");
                    long alone = one == ' ' ? 0 : !ofWord ? -10 : asks ? Bounds.NONE : 1;
                    long behind = one != ' ' && !ofWord ? -11 : asks ? Bounds.NONE : 1;
                    ask.due(reader + " of " + text, read(new Talk(), reader, text), alone);
                    ask.due(reader + " of a" + text, read(new Talk(), reader, "a" + text), behind);
                }
            }
            ask.due("rule " + text, new Talk().rule(text), ofWord ? 1 : one == ' ' ? -11 : -10);
            boolean opens = one == ',' || one == '^';
            ask.due("rule a" + text, new Talk().rule("a" + text), ofWord || one == ' ' ? 1 : opens ? -12 : -11);
        }
        rule("a=>b");
        rule("a|= >b");
        rule("a|==>b");
        rule("a=>|>b");
        rule("a|>=b");
        Talk parted = new Talk();
        ask.due("= as byte 16", parted.say("abcdefghijkl   ="), 16);
        ask.due("> as byte 17", parted.rule(">b"), 1);
        ask.due("=> at the end of 208", new Talk().rule("a" + " ".repeat(205) + "=>"), 1);
        ask.due("= at the end of 208", new Talk().rule("a" + " ".repeat(206) + "="), -217);
        Talk cut = new Talk();
        cut.say("a =>");
        ask.due("cut", cut.x.cut(1), 3);
        ask.due("a > that was cut away does not come back", cut.x.rule(false), -12);
    }

    private void blanks() {
        ask.sentence("bytes 32 stand between TOKENS where one likes, and part WORDS.");
        String[] same = {"a b^5,c=>d^10,e f", " a  b ^ 5 , c => d ^ 10 , e  f ", "a b   ^5   ,c   =>d   ^10   ,e f   "};
        for (String text : same) {
            Talk talk = new Talk();
            ask.due("rule " + text, talk.rule(text), 1);
            talk.x.reload();
            ask.due("words", talk.x.told(1), 6);
            ask.same("left 0", talk.left(0), "a b");
            ask.same("alternatives", talk.alternatives(0), "d^10, e f^10");
        }
        ask.due("ab", new Talk().input("ab"), 1);
        ask.due("a b", new Talk().input("a b"), 2);
        ask.due("tenths are not parted", new Talk().rule("a^1 0"), -14);
        ask.due("208 blanks as a row", new Talk().input(" ".repeat(208)), 0);
        ask.due("208 blanks as a rule", new Talk().rule(" ".repeat(208)), -218);
    }

    private void numbers() {
        ask.sentence("WORDS have NUMBERS, 0, 1, .., as they first came in a text that was taken (section 2, 3, 5), in its order");
        Talk talk = new Talk();
        talk.rule("d c^9, d =>b");
        talk.input("c a c");
        talk.document("z b y");
        ask.due("words", talk.x.told(1), 6);
        String[] due = {"d", "c", "b", "a", "z", "y"};
        for (int n = 0; n < due.length; n++) {
            ask.same("word " + n, talk.word(n), due[n]);
        }
        Talk none = new Talk();
        none.rule("a b c d e");
        none.input("a ,");
        none.document("a =");
        none.which("a");
        ask.due("words of texts that were not taken, or only asked for", none.x.told(1), 0);
        none.input("q");
        ask.same("word 0", none.word(0), "q");
    }

    private void twoHundredNumbers() {
        ask.sentence("in its order; 200 at most.");
        for (String reader : new String[] {"rule", "input", "document"}) {
            Talk talk = new Talk();
            talk.haveWords(198);
            ask.due("198 words", talk.x.told(1), 198);
            ask.due(reader + " with three more", read(talk, reader, "xa xb xc"), Bounds.FULL);
            ask.due("no word 198", talk.x.word(198, -1), Bounds.BAD);
            ask.due("no word 199", talk.x.word(199, -1), Bounds.BAD);
            ask.due("198 words", talk.x.told(1), 198);
            ask.due(reader + " with one more", read(talk, reader, "xd") < 0 ? -1 : 1, 1);
            ask.due("199 words", talk.x.told(1), 199);
            ask.due(reader + " with two more", read(talk, reader, "xe xf"), Bounds.FULL);
            ask.due("199 words", talk.x.told(1), 199);
            ask.due(reader + " with one more", read(talk, reader, "xf") < 0 ? -1 : 1, 1);
            ask.due("200 words", talk.x.told(1), 200);
            ask.due(reader + " with one more", read(talk, reader, "xe"), Bounds.FULL);
            ask.due(reader + " with none more", read(talk, reader, "xd xf") < 0 ? -1 : 1, 1);
            ask.due("200 words", talk.x.told(1), 200);
            ask.same("word 198", talk.word(198), "xd");
            ask.same("word 199", talk.word(199), "xf");
            ask.same("word 200", talk.word(talk.x.word(200, -1)), "(-1)");
        }
    }

    private void tenths() {
        ask.sentence("TENTHS: 1, 2, .. or 10 (so written; a TOKEN like a WORD, but it gets no NUMBER).");
        for (int tenths = 0; tenths <= 12; tenths++) {
            Talk talk = new Talk();
            boolean good = tenths >= 1 && tenths <= 10;
            ask.due("a^" + tenths, talk.rule("a^" + tenths), good ? 1 : -12);
            ask.due("words", talk.x.told(1), good ? 1 : 0);
            talk.x.reload();
            ask.due("tenths", talk.x.alternative(0, 0, -2), good ? tenths : Bounds.BAD);
        }
        Talk both = new Talk();
        ask.due("a word and its like", both.rule("10 ^ 10, 7"), 1);
        ask.due("words", both.x.told(1), 2);
        for (String wrong : new String[] {"00", "01", "010", "001", "1a", "a1", "100", "99", "1010"}) {
            rule("a^|" + wrong);
        }
    }

    /** All rows of up to six tokens, against a pattern of the rule. */
    private void shapesOfRules() {
        ask.sentence("RULE: SIDE {, SIDE}, or SIDE {, SIDE} =>, or SIDE {, SIDE} => SIDE {, SIDE}.    SIDE: WORD {WORD} [^ TENTHS]");
        String[] tokens = {"a", "5", ",", "^", "=>", "!"};
        String side = "[a5]{1,4}(\\^5)?";
        String sides = side + "(," + side + "){0,7}";
        Pattern rule = Pattern.compile(sides + "(>(" + sides + ")?)?");
        Talk talk = new Talk();
        int told = 0;
        for (int length = 0; length <= 6; length++) {
            int rows = (int) Math.pow(tokens.length, length);
            for (int row = 0; row < rows; row++) {
                StringBuilder text = new StringBuilder();
                int due = dueOfTokens(rule, tokens, row, length, text);
                told++;
                talk = told % 80 == 0 ? new Talk() : talk;
                talk.x.fresh();
                ask.due("rule " + text, talk.rule(text.toString()), due);
            }
        }
    }

    /** The row of tokens becomes a text; 1, or the fault that is due. */
    private static int dueOfTokens(Pattern rule, String[] tokens, int row, int length, StringBuilder text) {
        StringBuilder kinds = new StringBuilder();
        int fault = 0;
        int rest = row;
        for (int i = 0; i < length; i++) {
            text.append(i == 0 ? "" : " ");
            String token = tokens[rest % tokens.length];
            rest /= tokens.length;
            kinds.append(token.equals("=>") ? ">" : token);
            Matcher matcher = rule.matcher(kinds);
            boolean canStand = matcher.matches() || matcher.hitEnd();
            fault = fault == 0 && !canStand ? -10 - text.length() : fault;
            text.append(token);
        }
        if (fault == 0 && !rule.matcher(kinds).matches()) {
            fault = -10 - text.length();
        }
        return fault == 0 ? 1 : fault;
    }

    private void shapesOfRows() {
        ask.sentence("A ROW: {WORD}, nothing else.");
        String[] tokens = {"a", "10", ",", "^", "=>", "=", ">", "!"};
        for (String reader : new String[] {"input", "document", "which"}) {
            for (String first : tokens) {
                for (String second : tokens) {
                    boolean firstGood = first.matches("[a-z0-9]+");
                    boolean secondGood = second.matches("[a-z0-9]+");
                    long taken = reader.equals("which") ? Bounds.NONE : 2;
                    long due = !firstGood ? -10 : !secondGood ? -11 - first.length() : taken;
                    String text = first + " " + second;
                    ask.due(reader + " of " + text, read(new Talk(), reader, text), due);
                }
            }
            ask.due(reader + " of nothing", read(new Talk(), reader, ""), 0);
            ask.due(reader + " of a blank", read(new Talk(), reader, " "), 0);
        }
    }

    private void placesOfFaults() {
        ask.sentence("FAULTS are told as -10 less the place, the first byte of the first TOKEN that can't stand there (the end: how many bytes THE TEXT has)");
        for (int bytes : new int[] {2, 3, 15, 16, 17, 207, 208}) {
            ask.due("the end of " + bytes, new Talk().rule("a," + " ".repeat(bytes - 2)), -10 - bytes);
            ask.due("the last of " + bytes, new Talk().input("a" + " ".repeat(bytes - 2) + "!"), -9 - bytes);
        }
        ask.due("the end of nothing", new Talk().rule(""), -10);
        ask.due("the end of one", new Talk().rule(" "), -11);
        ask.due("the first of 208", new Talk().rule("!".repeat(208)), -10);
        rule("|, !");
        rule("a b ^  |=> !");
        rule("a |! ,, b");
        rule("  a  ,  |, !");
    }

    private void whatIsNoToken() {
        ask.sentence("what is no TOKEN (a byte, also a WORD of more than 12 bytes, = without >)");
        rule("a |A");
        rule("a |abcdefghijklm");
        rule("a, |abcdefghijklm, =");
        rule("abcdefghijkl |= >");
        rule("a |=");
        rule("a^|1234567890123");
        rule("a=>b|.");
        ask.due("in a row", new Talk().input("a b abcdefghijklm ="), -14);
        ask.due("in a document", new Talk().document("a = abcdefghijklm"), -12);
        ask.due("in a text that is asked for", new Talk().which("a =abcdefghijklm"), -12);
    }

    private void whatCantCome() {
        ask.sentence("; what can't come; in a RULE");
        // What may stand in a rule so far, and each token behind it: * is where it is due as a fault.
        String[][] table = {
            {"", "a", "*,", "*^", "*=>", "*"},
            {"a", "a", ",a", "^1", "=>", ""},
            {"a,", "a", "*,", "*^", "*=>", "*"},
            {"a^", "*a", "*,", "*^", "*=>", "*"},
            {"a^1", " *a", ",a", "*^", "=>", ""},
            {"a=>", "a", "*,", "*^", "*=>", ""},
            {"a=>b", "a", ",a", "^1", "*=>", ""},
            {"a=>b,", "a", "*,", "*^", "*=>", "*"},
            {"a=>b^", "*a", "*,", "*^", "*=>", "*"},
            {"a=>b^1", " *a", ",a", "*^", "*=>", ""}};
        for (String[] line : table) {
            for (int i = 1; i < line.length; i++) {
                rule((line[0] + line[i]).replace('*', '|'));
                // A fault further on is not the first.
                if (line[i].contains("*") && !line[i].endsWith("*")) {
                    rule((line[0] + line[i] + " ~ ,").replace('*', '|'));
                }
            }
        }
    }

    private void fifthWord() {
        ask.sentence("in a RULE the 5th WORD of a SIDE");
        String[] sides = {"x %s", "x, %s", "%s, x", "x => %s", "x => y, %s", "%s =>", "%s => y", "x, %s => y"};
        for (String side : sides) {
            rule(String.format(side, "a b c"));
            rule(String.format(side.replace("x %s", "%s"), "a b c d"));
            rule(String.format(side.replace("x %s", "%s"), "a b c d |e"));
            rule(String.format(side.replace("x %s", "%s"), "a b c d |e f^0"));
            rule(String.format(side.replace("x %s", "%s"), "a a a a^10"));
        }
        rule("a b c d |abcdefghijklm");
    }

    private void ninthSide() {
        ask.sentence("the first WORD of the 9th SIDE ahead of => (or of all without it), of the 9th behind it");
        String seven = "a, b b, c^5, d, e e e e^10, f, g";
        String eight = seven + ", h";
        for (String good : new String[] {seven, eight}) {
            rule(good);
            rule(good + "=>");
            rule("x =>" + good);
            rule(good + "=>x");
            rule(eight + "=>" + good.replaceAll("([a-z])", "$1$1"));
        }
        rule(eight + ", |i");
        rule(eight + ", |i i, j =>");
        rule(eight + ", |i => x");
        rule("x => " + eight + ",|i");
        rule("x => " + eight + ",|i^1, j");
        rule(eight + " => " + eight + " , |i");
        rule(eight + ",|");
        rule(eight + ",|,");
        rule(eight + ",|=>");
        rule(eight + ",|abcdefghijklm");
    }

    private void behindCaret() {
        ask.sentence("what stands behind ^ and is not TENTHS");
        for (String wrong : new String[] {"", "0", "11", "a", ",", "^", "=>", "=", "!", "05", "1x", "1234567890123"}) {
            rule("a ^ |" + wrong);
            rule("a=>b^|" + wrong);
            rule("a, b c^|" + wrong);
        }
        rule("a^1");
        rule("a^10");
        rule("a^10|^10");
        rule("a^10 |b");
    }

    private void wordsAboveTheMost() {
        ask.sentence("in a ROW the first WORD above as many as are told.");
        int[] most = {16, 40};
        String[] readers = {"input", "document"};
        for (int i = 0; i < 2; i++) {
            String row = "a ".repeat(most[i]);
            ask.due(readers[i] + " one below", read(new Talk(), readers[i], row.substring(2)), most[i] - 1);
            ask.due(readers[i] + " at the most", read(new Talk(), readers[i], row), most[i]);
            ask.due(readers[i] + " one above", read(new Talk(), readers[i], row + "  b"), -12 - row.length());
            ask.due(readers[i] + " far above", read(new Talk(), readers[i], "a ".repeat(104)), -10 - row.length());
            ask.due(readers[i] + " a fault ahead of it", read(new Talk(), readers[i], "," + row + "b"), -10);
            ask.due(readers[i] + " a fault at the most", read(new Talk(), readers[i], row + ", b"), -10 - row.length());
        }
        ask.due("which has no most", new Talk().which("a ".repeat(104)), Bounds.NONE);
    }

    private void newObject() {
        ask.sentence("`SynonymGraphs()`: Empty TEXT, DRAFT, INPUT, DOCUMENT; nothing IN FORCE.");
        SynonymGraphs x = new SynonymGraphs();
        for (int what = 0; what <= 8; what++) {
            ask.due("told " + what, x.told(what), 0);
        }
        ask.due("nothing to cut", x.cut(1), Bounds.BAD);
        ask.due("no word", x.word(0, -1), Bounds.BAD);
        ask.due("nothing in force", x.left(0, -1), Bounds.BAD);
        ask.due("no alternative", x.alternative(0, 0, -1), Bounds.BAD);
        ask.due("no word of the input", x.longest(0), Bounds.BAD);
        ask.due("no hit", x.hits(), 0);
        ask.due("no rule goes", x.fresh(), 0);
        ask.due("an empty text is no rule", x.rule(true), -10);
        ask.due("an empty text is an input", x.input(), 0);
        ask.due("an empty text is a document", x.document(), 0);
        ask.due("an empty text is the phrase of nothing", x.which(), 0);
        ask.due("a graph of nothing", x.graph(), 1);
        SynonymGraphs other = new SynonymGraphs();
        other.feed(0x61616161, 0x61616161, 0x20202020, 0x20202020);
        other.input();
        ask.due("one object has nothing of another", x.told(1), 0);
        ask.due("nor its text", new SynonymGraphs().told(0), 0);
    }

    private void feed() {
        ask.sentence("Sixteen bytes more of THE TEXT, the highest of each number first: how many it has. BAD: one is not 32 .. 126; FULL: they would be above 208.");
        SynonymGraphs x = new SynonymGraphs();
        int[] wrong = {Bounds.LEAST, Bounds.GREATEST, 0, -1, 1, 0x2020201f, 0x1f202020, 0x7e7e7e7f, 0x7f7e7e7e, 0x20802020};
        for (int one : wrong) {
            ask.due("a " + one, x.feed(one, 0x61616161, 0x61616161, 0x61616161), Bounds.BAD);
            ask.due("b " + one, x.feed(0x61616161, one, 0x61616161, 0x61616161), Bounds.BAD);
            ask.due("c " + one, x.feed(0x61616161, 0x61616161, one, 0x61616161), Bounds.BAD);
            ask.due("d " + one, x.feed(0x61616161, 0x61616161, 0x61616161, one), Bounds.BAD);
            ask.due("all " + one, x.feed(one, one, one, one), Bounds.BAD);
        }
        for (int i = 1; i <= 13; i++) {
            ask.due("feed " + i, x.feed(0x61626320, 0x64656667, 0x68206970, 0x20717220), 16 * i);
        }
        ask.due("feed 14", x.feed(0x61626320, 0x64656667, 0x68206970, 0x20717220), Bounds.FULL);
        x.cut(192);
        ask.due("one feed is left", x.input(), 4);
        int[] lengths = {3, 5, 2, 2};
        int[] firsts = {'a', 'd', 'i', 'q'};
        int[] lasts = {'c', 'h', 'p', 'r'};
        for (int n = 0; n < 4; n++) {
            ask.due("bytes of word " + n, x.word(n, -1), lengths[n]);
            ask.due("first of word " + n, x.word(n, 0), firsts[n]);
            ask.due("last of word " + n, x.word(n, lengths[n] - 1), lasts[n]);
        }
    }

    private void cut() {
        ask.sentence("The last n bytes of THE TEXT go: how many are left. BAD: n is below 0, or there are not so many.");
        for (int bytes : new int[] {0, 1, 16, 207, 208}) {
            int[] wrong = {Bounds.LEAST, Bounds.LEAST + 1, -208, -1, bytes + 1, 209, Bounds.GREATEST - 1, Bounds.GREATEST};
            Talk talk = new Talk();
            talk.say("x".repeat(bytes));
            for (int n : wrong) {
                ask.due("cut " + n + " of " + bytes, talk.x.cut(n), Bounds.BAD);
            }
            ask.due("bytes", talk.x.told(0), bytes);
            ask.due("cut 0", talk.x.cut(0), bytes);
            ask.due("cut one", talk.x.cut(1), bytes == 0 ? Bounds.BAD : bytes - 1);
            int left = Math.max(0, bytes - 1);
            ask.due("cut one above", talk.x.cut(left + 1), Bounds.BAD);
            ask.due("cut all", talk.x.cut(left), 0);
            ask.due("cut none of none", talk.x.cut(0), 0);
        }
        Talk talk = new Talk();
        talk.say("abcdef");
        talk.x.cut(3);
        talk.say("xy");
        talk.x.input();
        ask.same("the last go, the first stay", talk.word(0), "abcxy");
    }

    private void told() {
        ask.sentence("0 bytes of THE TEXT, 1 WORDS with NUMBERS, 2 RULES, 3 LEFTS of THE DRAFT, 4 LEFTS IN FORCE, 5 the VERSION (how many reload() there were), 6 WORDS of THE INPUT, 7 of THE DOCUMENT, 8 the VERSION that was IN FORCE for THE GRAPH. BAD.");
        Talk talk = new Talk();
        for (int round = 0; round < 2; round++) {
            for (int what : new int[] {Bounds.LEAST, -9, -1, 9, 10, Bounds.GREATEST}) {
                ask.due("told " + what, talk.x.told(what), Bounds.BAD);
            }
            talk.rule("a, b => c, d");
        }
        // Nine different numbers, so that none can stand for another.
        talk.rule("e");
        talk.x.reload();
        talk.x.reload();
        talk.x.reload();
        talk.input("a f g h i");
        talk.x.graph();
        talk.rule("j, k");
        talk.rule("l");
        for (int i = 0; i < 6; i++) {
            talk.x.reload();
        }
        talk.rule("m, n");
        talk.rule("m");
        talk.document("a b c d e f g h i j");
        talk.say("twelve bytes");
        long[] due = {12, 14, 7, 8, 6, 9, 5, 10, 3};
        for (int what = 0; what < due.length; what++) {
            ask.due("told " + what, talk.x.told(what), due[what]);
        }
    }

    private void toldOfAFullObject() {
        ask.sentence("`int told(int what)`: 0 bytes of THE TEXT");
        Talk talk = new Talk();
        for (int i = 0; i < 7; i++) {
            talk.rule("0x, 1x, 2x, 3x, 4x, 5x, 6x, 7x".replace("x", "x" + i));
        }
        talk.rule("8x, 9x, ax, bx");
        for (int i = 9; i <= 24; i++) {
            talk.rule("8x");
        }
        talk.x.reload();
        talk.haveWords(200);
        talk.input("8x ".repeat(16));
        talk.document("ax ".repeat(40));
        talk.x.graph();
        talk.say("!".repeat(208));
        long[] due = {208, 200, 24, 60, 60, 1, 16, 40, 1};
        for (int what = 0; what < due.length; what++) {
            ask.due("told " + what, talk.x.told(what), due[what]);
        }
    }

    private void word() {
        ask.sentence("Byte i of the WORD with a NUMBER; i = -1: how many. BAD.");
        SynonymGraphs none = new SynonymGraphs();
        for (int number : new int[] {Bounds.LEAST, -1, 0, 1, Bounds.GREATEST}) {
            ask.due("word " + number + " of none", none.word(number, -1), Bounds.BAD);
            ask.due("its byte", none.word(number, 0), Bounds.BAD);
        }
        Talk talk = new Talk();
        talk.input("z 0123456789ab 9 a0");
        String[] due = {"z", "0123456789ab", "9", "a0"};
        for (int n = 0; n < due.length; n++) {
            int bytes = due[n].length();
            ask.due("bytes of " + due[n], talk.x.word(n, -1), bytes);
            for (int i = 0; i < bytes; i++) {
                ask.due("byte " + i + " of " + due[n], talk.x.word(n, i), due[n].charAt(i));
            }
            for (int i : new int[] {Bounds.LEAST, -3, -2, bytes, bytes + 1, 12, 13, Bounds.GREATEST}) {
                ask.due("byte " + i + " of " + due[n], talk.x.word(n, i), Bounds.BAD);
            }
        }
        for (int number : new int[] {Bounds.LEAST, -1, 4, 199, 200, Bounds.GREATEST}) {
            ask.due("word " + number, talk.x.word(number, -1), Bounds.BAD);
            ask.due("its byte", talk.x.word(number, 0), Bounds.BAD);
        }
        Talk full = new Talk();
        full.haveWords(200);
        ask.due("word 199", full.x.word(199, -1), 3);
        ask.due("word 200", full.x.word(200, -1), Bounds.BAD);
    }
}
