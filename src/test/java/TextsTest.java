/** Promises 1 to 5: a new object, feed, cut, told, word. */
public final class TextsTest {
    private static final int BAD = -1;
    private static final int FULL = -3;
    private static final Check CHECK = new Check("texts");

    public static void main(String[] args) {
        newObject();
        feed();
        cut();
        told();
        word();
        textIsEmptiedByReaders();
        CHECK.end();
    }

    private static void newObject() {
        SynonymGraphs x = new SynonymGraphs();
        for (int what = 0; what <= 8; what++) {
            CHECK.due("new told " + what, x.told(what), 0);
        }
        CHECK.due("new nodes", x.size(0), 1);
        CHECK.due("new edges", x.size(1), 0);
        CHECK.due("new matches", x.size(2), 0);
        CHECK.due("new sets", x.size(3), 1);
        CHECK.due("new positions", x.size(4), 0);
        CHECK.due("new phrases", x.phrases(), 1);
        CHECK.due("new phrase 0", x.phrase(0, -1), 0);
        CHECK.due("new weight 0", x.weight(0), 10000000000000000L);
        CHECK.due("new heaviest", x.heaviest(), 0);
        CHECK.due("new which of nothing", x.which(), 0);
        CHECK.due("new flat rows", x.rows(0), 1);
        CHECK.due("new flat row", x.row(0, 0, -1), 0);
        CHECK.due("new lost", x.rows(1), 0);
        CHECK.due("new besides", x.rows(2), 0);
        CHECK.due("new hits", x.hits(), 0);
        CHECK.due("new left", x.left(0, -1), BAD);
        CHECK.due("new longest", x.longest(0), BAD);
        CHECK.due("new match", x.match(0, 0), BAD);
        CHECK.due("new edge", x.edge(0, 0), BAD);
        CHECK.due("new word", x.word(0, -1), BAD);
        CHECK.due("new position", x.position(0, -1), BAD);
        CHECK.due("new hit", x.hit(0, 0), BAD);
        CHECK.due("new graph", x.graph(), 1);
        CHECK.due("new fresh", x.fresh(), 0);
    }

    private static void feed() {
        SynonymGraphs x = new SynonymGraphs();
        int blanks = 0x20202020;
        int good = 0x7e7e7e7e;
        for (int shift = 0; shift < 32; shift += 8) {
            for (int wrong : new int[] {0, 31, 127, 128, 255}) {
                int bad = good & ~(255 << shift) | wrong << shift;
                CHECK.due("feed bad a", x.feed(bad, good, blanks, good), BAD);
                CHECK.due("feed bad b", x.feed(good, bad, good, blanks), BAD);
                CHECK.due("feed bad c", x.feed(good, blanks, bad, good), BAD);
                CHECK.due("feed bad d", x.feed(blanks, good, good, bad), BAD);
            }
        }
        CHECK.due("nothing was fed", x.told(0), 0);
        for (int i = 1; i <= 13; i++) {
            CHECK.due("feed " + i, x.feed(blanks, good, blanks, good), 16 * i);
        }
        CHECK.due("feed above 208", x.feed(blanks, blanks, blanks, blanks), FULL);
        CHECK.due("bad goes ahead of full", x.feed(blanks, 0, blanks, blanks), BAD);
        CHECK.due("208 stay", x.told(0), 208);
        x.cut(15);
        CHECK.due("feed at 193", x.feed(blanks, blanks, blanks, blanks), FULL);
        x.cut(1);
        CHECK.due("feed at 192", x.feed(blanks, blanks, blanks, blanks), 208);
    }

    private static void cut() {
        SynonymGraphs x = new SynonymGraphs();
        CHECK.due("cut none of none", x.cut(0), 0);
        CHECK.due("cut one of none", x.cut(1), BAD);
        x.feed(Talk.four("abcd", 0), Talk.four("efgh", 0), Talk.four("ijkl", 0), Talk.four("mnop", 0));
        CHECK.due("cut -1", x.cut(-1), BAD);
        CHECK.due("cut least", x.cut(Integer.MIN_VALUE), BAD);
        CHECK.due("cut greatest", x.cut(Integer.MAX_VALUE), BAD);
        CHECK.due("cut 17", x.cut(17), BAD);
        CHECK.due("cut 0", x.cut(0), 16);
        CHECK.due("cut 13", x.cut(13), 3);
        x.input();
        CHECK.due("the first bytes stay", x.word(0, -1), 3);
        CHECK.due("first", x.word(0, 0), 'a');
        CHECK.due("last", x.word(0, 2), 'c');
    }

    private static void told() {
        Talk talk = new Talk();
        SynonymGraphs x = talk.x;
        CHECK.due("told -1", x.told(-1), BAD);
        CHECK.due("told 9", x.told(9), BAD);
        CHECK.due("told least", x.told(Integer.MIN_VALUE), BAD);
        talk.rule("a, b c");
        talk.rule("d =>");
        x.reload();
        x.reload();
        talk.rule("e");
        talk.input("a b c q");
        talk.document("a a d d r");
        talk.say("12345");
        long[] due = {5, 7, 3, 4, 3, 2, 4, 5, 0};
        for (int what = 0; what < due.length; what++) {
            CHECK.due("told " + what, x.told(what), due[what]);
        }
        x.graph();
        CHECK.due("version of the graph", x.told(8), 2);
        x.reload();
        CHECK.due("version of the graph stays", x.told(8), 2);
        CHECK.due("version", x.told(5), 3);
        CHECK.due("lefts in force", x.told(4), 4);
        x.fresh();
        CHECK.due("no rules", x.told(2), 0);
        CHECK.due("no lefts of the draft", x.told(3), 0);
        CHECK.due("lefts in force stay", x.told(4), 4);
    }

    private static void word() {
        Talk talk = new Talk();
        SynonymGraphs x = talk.x;
        talk.input("zz9 a abcdefghijkl 0 a zzzzzzzzzzzz 000000000000 00");
        String[] due = {"zz9", "a", "abcdefghijkl", "0", "zzzzzzzzzzzz", "000000000000", "00"};
        CHECK.due("words", x.told(1), due.length);
        for (int n = 0; n < due.length; n++) {
            CHECK.due("bytes of " + due[n], x.word(n, -1), due[n].length());
            for (int i = 0; i < due[n].length(); i++) {
                CHECK.due("byte of " + due[n], x.word(n, i), due[n].charAt(i));
            }
            CHECK.due("behind " + due[n], x.word(n, due[n].length()), BAD);
            CHECK.due("below " + due[n], x.word(n, -2), BAD);
        }
        CHECK.due("word 7", x.word(7, 0), BAD);
        CHECK.due("word -1", x.word(-1, -1), BAD);
        CHECK.due("word greatest", x.word(Integer.MAX_VALUE, Integer.MIN_VALUE), BAD);
        everyByte();
    }

    private static void everyByte() {
        Talk talk = new Talk();
        String all = "0123456789abcdefghijklmnopqrstuvwxyz";
        talk.document(all.replaceAll(".", "$0 "));
        CHECK.due("36 words", talk.x.told(1), 36);
        for (int n = 0; n < 36; n++) {
            CHECK.due("word of one byte", talk.x.word(n, 0), all.charAt(n));
        }
    }

    private static void textIsEmptiedByReaders() {
        Talk talk = new Talk();
        String[] texts = {"a", "a =", "a ,", "a b c d e f g"};
        for (String text : texts) {
            for (int reader = 0; reader < 4; reader++) {
                talk.say(text);
                switch (reader) {
                    case 0 -> talk.x.rule(false);
                    case 1 -> talk.x.input();
                    case 2 -> talk.x.document();
                    default -> talk.x.which();
                }
                CHECK.due("the text behind a call that reads it", talk.x.told(0), 0);
            }
        }
        talk.say("a b");
        talk.x.graph();
        talk.x.reload();
        talk.x.fresh();
        CHECK.due("the text behind calls that do not read it", talk.x.told(0), 3);
    }
}
