/** A new object, and texts told to it as Java strings. */
final class Talk {
    final SynonymGraphs x = new SynonymGraphs();

    /** THE TEXT gets the string behind what it has; the last answer of feed or cut. */
    int say(String text) {
        int answer = x.told(0);
        for (int at = 0; at < text.length(); at += 16) {
            String part = text.substring(at, Math.min(text.length(), at + 16));
            int missing = 16 - part.length();
            part = part + " ".repeat(missing);
            answer = x.feed(four(part, 0), four(part, 4), four(part, 8), four(part, 12));
            if (missing > 0) {
                answer = x.cut(missing);
            }
        }
        return answer;
    }

    static int four(String text, int at) {
        return text.charAt(at) << 24 | text.charAt(at + 1) << 16 | text.charAt(at + 2) << 8 | text.charAt(at + 3);
    }

    int rule(String text) {
        say(text);
        return x.rule(false);
    }

    int both(String text) {
        say(text);
        return x.rule(true);
    }

    int input(String text) {
        say(text);
        return x.input();
    }

    int document(String text) {
        say(text);
        return x.document();
    }

    long which(String text) {
        say(text);
        return x.which();
    }

    /** There are so many words with numbers: those that are missing come by documents. */
    void haveWords(int due) {
        for (int have = x.told(1); have < due; have = x.told(1)) {
            StringBuilder row = new StringBuilder();
            for (int n = have; n < due && n < have + 40; n++) {
                row.append(n + 100).append(' ');
            }
            document(row.toString());
        }
    }

    /** Rules in force, an input, and its graph. */
    static Talk graph(String input, String... rules) {
        Talk talk = new Talk();
        for (String rule : rules) {
            talk.rule(rule);
        }
        talk.x.reload();
        talk.input(input);
        talk.x.graph();
        return talk;
    }

    String word(int number) {
        if (number < 0) {
            return "(" + number + ")";
        }
        StringBuilder word = new StringBuilder();
        for (int i = 0; i < x.word(number, -1); i++) {
            word.append((char) x.word(number, i));
        }
        return word.toString();
    }

    String phrase(long k) {
        return spelled(x.phrase(k, -1), i -> x.phrase(k, i));
    }

    String row(int kind, long k) {
        return spelled(x.row(kind, k, -1), i -> x.row(kind, k, i));
    }

    String position(int p) {
        return spelled(x.position(p, -1), i -> x.position(p, i));
    }

    String left(int l) {
        return spelled(x.left(l, -1), i -> x.left(l, i));
    }

    /** The alternatives of a left, each with its tenths: "a b^10, c^5". */
    String alternatives(int l) {
        StringBuilder all = new StringBuilder();
        for (int a = 0; a < x.left(l, -2); a++) {
            int which = a;
            all.append(a == 0 ? "" : ", ");
            all.append(spelled(x.alternative(l, a, -1), i -> x.alternative(l, which, i)));
            all.append("^").append(x.alternative(l, a, -2));
        }
        return all.toString();
    }

    private String spelled(int length, java.util.function.IntUnaryOperator numbers) {
        StringBuilder all = new StringBuilder();
        for (int i = 0; i < length; i++) {
            all.append(i == 0 ? "" : " ").append(word(numbers.applyAsInt(i)));
        }
        return length < 0 ? "(" + length + ")" : all.toString();
    }
}
