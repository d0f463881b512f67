import java.util.Arrays;

/**
 * Synonyms as graphs of words. The document (shared/DOC.md) says what each call answers; the words
 * in capitals here are its terms.
 */
public final class SynonymGraphs {
    public static final int BAD = -1, NONE = -2, FULL = -3;

    private static final int MOST_BYTES = 208;
    private static final int FED_BYTES = 16;
    private static final int MOST_WORDS = 200;
    private static final int MOST_WORD_BYTES = 12;
    private static final int MOST_SIDE_WORDS = 4;
    private static final int MOST_SIDES = 8;
    private static final int MOST_RULES = 24;
    private static final int MOST_LEFTS = 60;
    private static final int MOST_ALTERNATIVES = 8;
    private static final int MOST_INPUT = 16;
    private static final int MOST_DOCUMENT = 40;
    private static final int MOST_SETS = 300;
    private static final int MOST_POSITIONS = MOST_INPUT * MOST_SIDE_WORDS;
    private static final int MOST_EDGES = MOST_POSITIONS * MOST_ALTERNATIVES;
    private static final int MOST_NODES =
            1 + MOST_INPUT * (1 + MOST_ALTERNATIVES * (MOST_SIDE_WORDS - 1));
    private static final int ALL_TENTHS = 10;
    private static final int FIRST_FAULT = -10;

    private static final long WHOLE_WEIGHT = 10000000000000000L;
    private static final long MOST_TOLD = 1000000000000000000L;

    private final Text text;
    private final WordRow read;
    private final RuleReader reader;
    private final Words words;
    private final WordRow inputRow;
    private final WordRow documentRow;
    private final Rules inForce;
    private final Speller speller;
    private final Weigher weigher;
    // A refused call must leave no trace: it works on the spare one, and what is taken changes
    // places with it.
    private Rules draft;
    private Rules spareDraft;
    private Picture shown;
    private Picture sparePicture;
    private int version;

    public SynonymGraphs() {
        text = new Text();
        read = new WordRow(MOST_BYTES / 2);
        reader = new RuleReader();
        words = new Words();
        inputRow = new WordRow(MOST_INPUT);
        documentRow = new WordRow(MOST_DOCUMENT);
        inForce = new Rules();
        draft = new Rules();
        spareDraft = new Rules();
        speller = new Speller();
        weigher = new Weigher();
        shown = new Picture();
        sparePicture = new Picture();
        version = 0;
        shown.draw(inForce, inputRow, version);
    }

    // ---- texts

    public int feed(int a, int b, int c, int d) {
        if (!Text.plain(a) || !Text.plain(b) || !Text.plain(c) || !Text.plain(d)) {
            return BAD;
        }
        if (text.length > MOST_BYTES - FED_BYTES) {
            return FULL;
        }
        text.addFour(a);
        text.addFour(b);
        text.addFour(c);
        text.addFour(d);
        return text.length;
    }

    public int cut(int n) {
        if (n < 0 || n > text.length) {
            return BAD;
        }
        text.length -= n;
        return text.length;
    }

    public int told(int what) {
        switch (what) {
            case 0: return text.length;
            case 1: return words.count;
            case 2: return draft.rules;
            case 3: return draft.lefts;
            case 4: return inForce.lefts;
            case 5: return version;
            case 6: return inputRow.count;
            case 7: return documentRow.count;
            case 8: return shown.version;
            default: return BAD;
        }
    }

    public int word(int number, int i) {
        if (number < 0 || number >= words.count) {
            return BAD;
        }
        long code = words.codes[number];
        int length = Words.lengthOf(code);
        if (i == -1) {
            return length;
        }
        if (i < 0 || i >= length) {
            return BAD;
        }
        return Words.byteAt(code, length - 1 - i);
    }

    // ---- rules

    public int rule(boolean both) {
        text.split();
        int fault = reader.readRule(text, read);
        if (fault < 0) {
            return fault;
        }
        int known = words.count;
        if (!words.numberAll(read)) {
            words.forgetFrom(known);
            return FULL;
        }
        reader.packSides(read);
        spareDraft.copyOf(draft);
        if (!spareDraft.addRule(reader, both)) {
            words.forgetFrom(known);
            return FULL;
        }
        Rules longer = spareDraft;
        spareDraft = draft;
        draft = longer;
        return draft.rules;
    }

    public int fresh() {
        int had = draft.rules;
        draft.empty();
        return had;
    }

    public int reload() {
        inForce.copyOf(draft);
        version++;
        return version;
    }

    public int left(int l, int i) {
        if (l < 0 || l >= inForce.lefts) {
            return BAD;
        }
        int phrase = inForce.leftPhrases[l];
        int length = Rules.lengthOf(phrase);
        switch (i) {
            case -1: return length;
            case -2: return inForce.alternatives[l];
            case -3: return inForce.goesRound(l) ? 1 : 0;
            default: return i < 0 || i >= length ? BAD : Rules.wordAt(phrase, i);
        }
    }

    public int alternative(int l, int a, int i) {
        if (l < 0 || l >= inForce.lefts || a < 0 || a >= inForce.alternatives[l]) {
            return BAD;
        }
        int phrase = inForce.alternativePhrase(l, a);
        int length = Rules.lengthOf(phrase);
        switch (i) {
            case -1: return length;
            case -2: return inForce.alternativeTenths(l, a);
            default: return i < 0 || i >= length ? BAD : Rules.wordAt(phrase, i);
        }
    }

    // ---- the graph

    public int input() {
        return takeRow(inputRow);
    }

    public int longest(int i) {
        if (i < 0 || i >= inputRow.count) {
            return BAD;
        }
        int found = inForce.longestAt(inputRow, i);
        return found < 0 ? 0 : Rules.lengthOf(inForce.leftPhrases[found]);
    }

    public int graph() {
        if (!sparePicture.draw(inForce, inputRow, version)) {
            return FULL;
        }
        Picture drawn = sparePicture;
        sparePicture = shown;
        shown = drawn;
        return shown.graph.nodes;
    }

    public int size(int what) {
        switch (what) {
            case 0: return shown.graph.nodes;
            case 1: return shown.graph.edges;
            case 2: return shown.graph.matches;
            case 3: return shown.sets.count;
            case 4: return shown.flat.positions;
            default: return BAD;
        }
    }

    public int match(int k, int what) {
        Graph graph = shown.graph;
        if (k < 0 || k >= graph.matches) {
            return BAD;
        }
        switch (what) {
            case 0: return graph.matchBegins[k];
            case 1: return graph.matchWords[k];
            case 2: return graph.matchLefts[k];
            case 3: return graph.matchAlternatives[k];
            case 4: return graph.borders[k];
            default: return BAD;
        }
    }

    public int edge(int k, int what) {
        Graph graph = shown.graph;
        if (k < 0 || k >= graph.edges) {
            return BAD;
        }
        switch (what) {
            case 0: return graph.from[k];
            case 1: return graph.to[k];
            case 2: return graph.wordOf[k];
            case 3: return graph.tenths[k];
            default: return BAD;
        }
    }

    // ---- phrases

    public long phrases() {
        return shown.sets.ways[0];
    }

    public int phrase(long k, int i) {
        if (k < 0 || k >= shown.sets.ways[0]) {
            return BAD;
        }
        speller.spellPhrase(shown, k, false);
        return speller.tell(i);
    }

    public long weight(long k) {
        if (k < 0 || k >= shown.sets.ways[0]) {
            return BAD;
        }
        speller.spellPhrase(shown, k, false);
        weigher.begin(shown.graph, false);
        for (int i = 0; i < speller.length; i++) {
            weigher.go(shown.graph, speller.spelled[i]);
        }
        return weigher.atEnd(shown.graph);
    }

    public long which() {
        text.split();
        int fault = text.readRow(read.most, read);
        if (fault < 0) {
            return fault;
        }
        words.findAll(read);
        return shown.sets.numberOf(read.numbers, read.count);
    }

    public long heaviest() {
        speller.spellHeaviest(shown.graph, weigher);
        return shown.sets.numberOf(speller.spelled, speller.length);
    }

    // ---- flat

    public int position(int p, int i) {
        Flat flat = shown.flat;
        if (p < 0 || p >= flat.positions) {
            return BAD;
        }
        int choices = flat.choices(p);
        if (i == -1) {
            return choices;
        }
        return i < 0 || i >= choices ? BAD : flat.words[flat.starts[p] + i];
    }

    public long rows(int kind) {
        switch (kind) {
            case 0: return Math.min(MOST_TOLD, shown.flat.spelledFrom[0]);
            case 1: return shown.sets.ways[0] - shown.both(0, 0);
            case 2: return Math.min(MOST_TOLD, shown.flat.spelledFrom[0] - shown.both(0, 0));
            default: return BAD;
        }
    }

    public int row(int kind, long k, int i) {
        if (kind < 0 || kind > 2 || k < 0 || k >= rows(kind)) {
            return BAD;
        }
        if (kind == 1) {
            speller.spellPhrase(shown, k, true);
        } else {
            speller.spellFlat(shown, k, kind == 2);
        }
        return speller.tell(i);
    }

    // ---- documents

    public int document() {
        return takeRow(documentRow);
    }

    public int hits() {
        return shown.countPlaces(documentRow);
    }

    public int hit(int k, int what) {
        int place = shown.findPlace(documentRow, k);
        if (place < 0) {
            return BAD;
        }
        switch (what) {
            case 0: return place;
            case 1: return shown.longestPhrase;
            case 2: return shown.phraseCount;
            default: return BAD;
        }
    }

    public long hitWeight(int k) {
        int place = shown.findPlace(documentRow, k);
        if (place < 0) {
            return BAD;
        }
        long greatest = 0;
        weigher.begin(shown.graph, false);
        for (int i = 0; i < shown.longestPhrase; i++) {
            weigher.go(shown.graph, documentRow.numbers[place + i]);
            greatest = Math.max(greatest, weigher.atEnd(shown.graph));
        }
        return greatest;
    }

    private int takeRow(WordRow row) {
        text.split();
        int fault = text.readRow(row.most, read);
        if (fault < 0) {
            return fault;
        }
        int known = words.count;
        if (!words.numberAll(read)) {
            words.forgetFrom(known);
            return FULL;
        }
        row.takeNumbers(read);
        return row.count;
    }

    /** THE TEXT, and the TOKENS of the one that is read, with their places; the last is its end. */
    private static final class Text {
        static final int WORD = 0, COMMA = 1, CARET = 2, ARROW = 3, END = 4, BROKEN = 5;

        final byte[] bytes = new byte[MOST_BYTES];
        int length;
        final int[] kinds = new int[MOST_BYTES + 1];
        final int[] places = new int[MOST_BYTES + 1];
        final long[] codes = new long[MOST_BYTES + 1];
        int tokens;

        static boolean plain(int four) {
            for (int shift = 24; shift >= 0; shift -= 8) {
                int one = (four >>> shift) & 255;
                if (one < 32 || one > 126) {
                    return false;
                }
            }
            return true;
        }

        void addFour(int four) {
            for (int shift = 24; shift >= 0; shift -= 8) {
                if (length < MOST_BYTES) {
                    bytes[length] = (byte) (four >>> shift);
                    length++;
                }
            }
        }

        /** THE TEXT becomes TOKENS, and is empty. */
        void split() {
            tokens = 0;
            int wordBytes = 0;
            for (int i = 0; i < length; i++) {
                int digit = Words.digitOf(bytes[i]);
                if (digit == 0) {
                    wordBytes = 0;
                    addMark(i);
                } else {
                    wordBytes++;
                    addDigit(digit, wordBytes, i);
                }
            }
            addToken(END, length, 0);
            length = 0;
        }

        private void addDigit(int digit, int wordBytes, int place) {
            if (wordBytes == 1 || tokens == 0) {
                addToken(WORD, place, digit);
            } else if (wordBytes > MOST_WORD_BYTES) {
                kinds[tokens - 1] = BROKEN;
            } else {
                codes[tokens - 1] = codes[tokens - 1] * Words.BASE + digit;
            }
        }

        private void addMark(int i) {
            switch (bytes[i]) {
                case ' ':
                    break;
                case ',':
                    addToken(COMMA, i, 0);
                    break;
                case '^':
                    addToken(CARET, i, 0);
                    break;
                case '=':
                    addToken(i + 1 < length && bytes[i + 1] == '>' ? ARROW : BROKEN, i, 0);
                    break;
                case '>':
                    // Behind = it is the second byte of a TOKEN that stands there already.
                    if (i == 0 || bytes[i - 1] != '=') {
                        addToken(BROKEN, i, 0);
                    }
                    break;
                default:
                    addToken(BROKEN, i, 0);
                    break;
            }
        }

        private void addToken(int kind, int place, long code) {
            if (tokens < kinds.length) {
                kinds[tokens] = kind;
                places[tokens] = place;
                codes[tokens] = code;
                tokens++;
            }
        }

        int faultAt(int token) {
            return FIRST_FAULT - places[token];
        }

        /** A ROW of so many WORDS at most: 0, or its FAULT. */
        int readRow(int most, WordRow list) {
            list.count = 0;
            for (int t = 0; t < tokens; t++) {
                if (kinds[t] == END) {
                    return 0;
                }
                if (kinds[t] != WORD || list.count >= most) {
                    return faultAt(t);
                }
                list.addCode(codes[t]);
            }
            return 0;
        }
    }

    /**
     * The WORDS with NUMBERS. A WORD is kept as one number, its code, so that two compare at once:
     * digits to the base 37, the first byte highest. No digit is 0, so WORDS of different lengths
     * differ, and twelve digits fit.
     */
    private static final class Words {
        static final int BASE = 37;
        static final long CODE_OF_TEN = 2 * BASE + 1;

        final long[] codes = new long[MOST_WORDS];
        int count;

        int find(long code) {
            for (int n = 0; n < count; n++) {
                if (codes[n] == code) {
                    return n;
                }
            }
            return NONE;
        }

        void findAll(WordRow list) {
            for (int i = 0; i < list.count; i++) {
                list.numbers[i] = find(list.codes[i]);
            }
        }

        /** False: there is no room for all; the caller then forgets those that came. */
        boolean numberAll(WordRow list) {
            for (int i = 0; i < list.count; i++) {
                int number = find(list.codes[i]);
                if (number < 0) {
                    if (count >= MOST_WORDS) {
                        return false;
                    }
                    number = count;
                    codes[number] = list.codes[i];
                    count++;
                }
                list.numbers[i] = number;
            }
            return true;
        }

        void forgetFrom(int number) {
            count = number;
        }

        /** 0: the byte is of no WORD. */
        static int digitOf(int one) {
            if (one >= '0' && one <= '9') {
                return one - '0' + 1;
            }
            if (one >= 'a' && one <= 'z') {
                return one - 'a' + 11;
            }
            return 0;
        }

        static int lengthOf(long code) {
            int length = 0;
            for (long rest = code; rest > 0 && length < MOST_WORD_BYTES; rest /= BASE) {
                length++;
            }
            return length;
        }

        static int byteAt(long code, int fromBehind) {
            long rest = code;
            for (int i = 0; i < fromBehind; i++) {
                rest /= BASE;
            }
            int digit = (int) (rest % BASE);
            return digit <= 10 ? '0' + digit - 1 : 'a' + digit - 11;
        }

        /** The TENTHS that are written like this WORD; 0: none. */
        static int tenthsOf(long code) {
            if (code == CODE_OF_TEN) {
                return ALL_TENTHS;
            }
            return code >= 2 && code <= 10 ? (int) code - 1 : 0;
        }
    }

    /** A row of WORDS: THE INPUT, THE DOCUMENT, or what is read, by codes until it has NUMBERS. */
    private static final class WordRow {
        final int most;
        final int[] numbers;
        final long[] codes;
        int count;

        WordRow(int most) {
            this.most = Math.max(0, most);
            numbers = new int[this.most];
            codes = new long[this.most];
        }

        void addCode(long code) {
            if (count < most) {
                codes[count] = code;
                count++;
            }
        }

        void takeNumbers(WordRow other) {
            count = Math.min(most, other.count);
            System.arraycopy(other.numbers, 0, numbers, 0, count);
        }
    }

    /** Reads a RULE, TOKEN by TOKEN, into its SIDES. */
    private static final class RuleReader {
        static final int SIDE_DUE = 0, SIDE_OR_END = 1, IN_SIDE = 2, TENTHS_DUE = 3, SIDE_DONE = 4;

        final int[] lengths = new int[2 * MOST_SIDES];
        final int[] tenths = new int[2 * MOST_SIDES];
        final int[] phrases = new int[2 * MOST_SIDES];
        int sides;
        int ahead;
        boolean arrow;
        private int state;

        /** 0, or the FAULT. */
        int readRule(Text text, WordRow list) {
            sides = 0;
            ahead = 0;
            arrow = false;
            state = SIDE_DUE;
            list.count = 0;
            for (int t = 0; t < text.tokens; t++) {
                if (!takes(text.kinds[t], text.codes[t], list)) {
                    return text.faultAt(t);
                }
            }
            if (!arrow) {
                ahead = sides;
            }
            return 0;
        }

        private boolean takes(int kind, long code, WordRow list) {
            boolean sideCanEnd = state == IN_SIDE || state == SIDE_DONE;
            switch (kind) {
                case Text.WORD:
                    return state == TENTHS_DUE ? takesTenths(code) : takesWord(code, list);
                case Text.COMMA:
                    state = sideCanEnd ? SIDE_DUE : state;
                    return sideCanEnd;
                case Text.CARET:
                    if (state != IN_SIDE) {
                        return false;
                    }
                    state = TENTHS_DUE;
                    return true;
                case Text.ARROW:
                    return sideCanEnd && takesArrow();
                case Text.END:
                    return sideCanEnd || state == SIDE_OR_END;
                default:
                    return false;
            }
        }

        private boolean takesTenths(long code) {
            int value = Words.tenthsOf(code);
            if (value == 0 || sides == 0) {
                return false;
            }
            tenths[sides - 1] = value;
            state = SIDE_DONE;
            return true;
        }

        private boolean takesWord(long code, WordRow list) {
            if (state == SIDE_DONE) {
                return false;
            }
            if (state != IN_SIDE && !opensSide()) {
                return false;
            }
            if (lengths[sides - 1] >= MOST_SIDE_WORDS) {
                return false;
            }
            lengths[sides - 1]++;
            list.addCode(code);
            return true;
        }

        private boolean opensSide() {
            int here = arrow ? sides - ahead : sides;
            if (here >= MOST_SIDES || sides >= lengths.length) {
                return false;
            }
            lengths[sides] = 0;
            tenths[sides] = ALL_TENTHS;
            sides++;
            state = IN_SIDE;
            return true;
        }

        private boolean takesArrow() {
            if (arrow) {
                return false;
            }
            arrow = true;
            ahead = sides;
            state = SIDE_OR_END;
            return true;
        }

        void packSides(WordRow list) {
            int at = 0;
            for (int s = 0; s < sides; s++) {
                int phrase = 0;
                for (int i = 0; i < lengths[s]; i++) {
                    phrase = Rules.with(phrase, i, list.numbers[at]);
                    at++;
                }
                phrases[s] = phrase;
            }
        }
    }

    /**
     * LEFTS with their ALTERNATIVES: THE DRAFT, or what is IN FORCE. A PHRASE of at most four WORDS
     * is one int here, the first WORD in the lowest byte, each as its NUMBER and one; 0 is the
     * PHRASE without a WORD. So PHRASES compare at once.
     */
    private static final class Rules {
        final int[] leftPhrases = new int[MOST_LEFTS];
        final int[] alternatives = new int[MOST_LEFTS];
        int rules;
        int lefts;
        private final int[] phrases = new int[MOST_LEFTS * MOST_ALTERNATIVES];
        private final int[] tenths = new int[MOST_LEFTS * MOST_ALTERNATIVES];
        // Bit m of number l: LEFT l LEADS to LEFT m by one step or more.
        private final long[] leads = new long[MOST_LEFTS];
        private boolean leadsKnown;

        static int lengthOf(int phrase) {
            if (phrase == 0) {
                return 0;
            }
            if ((phrase >>> 8) == 0) {
                return 1;
            }
            if ((phrase >>> 16) == 0) {
                return 2;
            }
            return (phrase >>> 24) == 0 ? 3 : 4;
        }

        static int wordAt(int phrase, int i) {
            return ((phrase >>> (8 * i)) & 255) - 1;
        }

        static int with(int phrase, int i, int number) {
            return phrase | ((number + 1) << (8 * i));
        }

        private static boolean holds(int phrase, int part) {
            int partLength = lengthOf(part);
            int last = lengthOf(phrase) - partLength;
            // A shift by 32 would be one by 0.
            int mask = partLength >= 4 ? -1 : (1 << (8 * partLength)) - 1;
            for (int i = 0; i <= last; i++) {
                if (((phrase >>> (8 * i)) & mask) == part) {
                    return true;
                }
            }
            return false;
        }

        void empty() {
            rules = 0;
            lefts = 0;
            leadsKnown = false;
        }

        void copyOf(Rules other) {
            rules = other.rules;
            lefts = other.lefts;
            leadsKnown = false;
            System.arraycopy(other.leftPhrases, 0, leftPhrases, 0, lefts);
            System.arraycopy(other.alternatives, 0, alternatives, 0, lefts);
            System.arraycopy(other.phrases, 0, phrases, 0, lefts * MOST_ALTERNATIVES);
            System.arraycopy(other.tenths, 0, tenths, 0, lefts * MOST_ALTERNATIVES);
        }

        int alternativePhrase(int l, int a) {
            return phrases[l * MOST_ALTERNATIVES + a];
        }

        int alternativeTenths(int l, int a) {
            return tenths[l * MOST_ALTERNATIVES + a];
        }

        /** False: there is no room; what is here then is of no use. */
        boolean addRule(RuleReader read, boolean both) {
            if (rules >= MOST_RULES) {
                return false;
            }
            rules++;
            if (!read.arrow) {
                return addLefts(read, 0, read.sides, 0, read.sides);
            }
            if (read.ahead == read.sides) {
                return addErasers(read);
            }
            if (!addLefts(read, 0, read.ahead, read.ahead, read.sides)) {
                return false;
            }
            return !both || addLefts(read, read.ahead, read.sides, 0, read.ahead);
        }

        private boolean addLefts(RuleReader read, int first, int end, int firstTo, int endTo) {
            for (int s = first; s < end; s++) {
                int l = takeLeft(read.phrases[s]);
                if (l < 0) {
                    return false;
                }
                for (int a = firstTo; a < endTo; a++) {
                    if (!addAlternative(l, read.phrases[a], read.tenths[a])) {
                        return false;
                    }
                }
            }
            return true;
        }

        private boolean addErasers(RuleReader read) {
            for (int s = 0; s < read.sides; s++) {
                int l = takeLeft(read.phrases[s]);
                if (l < 0 || !addAlternative(l, 0, ALL_TENTHS)) {
                    return false;
                }
            }
            return true;
        }

        private int takeLeft(int phrase) {
            int known = findLeft(phrase);
            if (known >= 0) {
                return known;
            }
            if (lefts >= MOST_LEFTS) {
                return NONE;
            }
            leftPhrases[lefts] = phrase;
            alternatives[lefts] = 0;
            lefts++;
            return lefts - 1;
        }

        private int findLeft(int phrase) {
            for (int l = 0; l < lefts; l++) {
                if (leftPhrases[l] == phrase) {
                    return l;
                }
            }
            return NONE;
        }

        private boolean addAlternative(int l, int phrase, int value) {
            int first = l * MOST_ALTERNATIVES;
            for (int i = first; i < first + alternatives[l]; i++) {
                if (phrases[i] == phrase) {
                    tenths[i] = Math.max(tenths[i], value);
                    return true;
                }
            }
            if (alternatives[l] >= MOST_ALTERNATIVES) {
                return false;
            }
            phrases[first + alternatives[l]] = phrase;
            tenths[first + alternatives[l]] = value;
            alternatives[l]++;
            return true;
        }

        /** The longest LEFT that stands at a word of a row; NONE: none. */
        int longestAt(WordRow row, int at) {
            int longest = NONE;
            int phrase = 0;
            for (int i = 0; i < MOST_SIDE_WORDS && at + i < row.count; i++) {
                phrase = with(phrase, i, row.numbers[at + i]);
                int l = findLeft(phrase);
                longest = l >= 0 ? l : longest;
            }
            return longest;
        }

        boolean goesRound(int l) {
            if (!leadsKnown) {
                findLeads();
            }
            return ((leads[l] >>> l) & 1L) != 0;
        }

        private void findLeads() {
            for (int l = 0; l < lefts; l++) {
                leads[l] = leadsAtOnce(l);
            }
            for (int by = 0; by < lefts; by++) {
                for (int l = 0; l < lefts; l++) {
                    if (((leads[l] >>> by) & 1L) != 0) {
                        leads[l] |= leads[by];
                    }
                }
            }
            leadsKnown = true;
        }

        private long leadsAtOnce(int l) {
            long found = 0;
            for (int a = 0; a < alternatives[l]; a++) {
                int phrase = alternativePhrase(l, a);
                if (phrase != leftPhrases[l]) {
                    found |= leftsIn(phrase);
                }
            }
            return found;
        }

        private long leftsIn(int phrase) {
            long found = 0;
            for (int m = 0; m < lefts; m++) {
                if (holds(phrase, leftPhrases[m])) {
                    found |= 1L << m;
                }
            }
            return found;
        }
    }

    /** THE GRAPH with all that is told of it, as of one graph(). */
    private static final class Picture {
        final Graph graph = new Graph();
        final Sets sets = new Sets();
        final Flat flat = new Flat();
        int version;
        // Of the place in THE DOCUMENT that was looked at last.
        int longestPhrase;
        int phraseCount;

        /** False: there are too many SETS; what is here then is of no use. */
        boolean draw(Rules rules, WordRow row, int asVersion) {
            version = asVersion;
            graph.lay(rules, row);
            if (!sets.gather(graph)) {
                return false;
            }
            flat.lay(graph);
            return true;
        }

        /**
         * How many of the rows that go on from a SET, reached behind so many WORDS, are PHRASES
         * that FLAT spells. Those are just the PHRASES with as many WORDS as there are POSITIONS:
         * on a way with so many, each WORD goes out from a NODE whose PLACE is the WORD's own.
         * No PHRASE is longer, so only the longest ends of the SET can make one.
         */
        long both(int words, int set) {
            return words + sets.farthest[set] == flat.positions ? sets.farthestWays[set] : 0;
        }

        /** How many HITS a row has. */
        int countPlaces(WordRow row) {
            int places = 0;
            for (int at = 0; at < row.count; at++) {
                look(row, at);
                places += phraseCount > 0 ? 1 : 0;
            }
            return places;
        }

        /** The place of HIT k, which is then the one looked at; NONE: none. */
        int findPlace(WordRow row, int k) {
            int places = 0;
            for (int at = 0; at < row.count; at++) {
                look(row, at);
                if (phraseCount > 0) {
                    if (places == k) {
                        return at;
                    }
                    places++;
                }
            }
            return NONE;
        }

        private void look(WordRow row, int at) {
            longestPhrase = 0;
            phraseCount = 0;
            int set = 0;
            for (int i = at; i < row.count && set >= 0; i++) {
                set = sets.after(set, row.numbers[i]);
                if (set >= 0 && sets.endsAt(set)) {
                    longestPhrase = i + 1 - at;
                    phraseCount++;
                }
            }
        }
    }

    /** NODES, EDGES and MATCHES. All EDGES lead to a NODE with a greater number. */
    private static final class Graph {
        final int[] from = new int[MOST_EDGES];
        final int[] to = new int[MOST_EDGES];
        final int[] wordOf = new int[MOST_EDGES];
        final int[] tenths = new int[MOST_EDGES];
        // Whether a way of the greatest WEIGHT can have the EDGE.
        final boolean[] heavy = new boolean[MOST_EDGES];
        // The EDGES out of a NODE, as a chain; NONE ends it.
        final int[] firstOut = new int[MOST_NODES];
        final int[] nextOut = new int[MOST_EDGES];
        final int[] matchBegins = new int[MOST_INPUT];
        final int[] matchWords = new int[MOST_INPUT];
        final int[] matchLefts = new int[MOST_INPUT];
        final int[] matchAlternatives = new int[MOST_INPUT];
        // The EDGE without a WORD of each MATCH, or NONE.
        final int[] skips = new int[MOST_INPUT];
        final int[] borders = new int[MOST_INPUT + 1];
        int nodes;
        int edges;
        int matches;

        int lastNode() {
            return nodes - 1;
        }

        void lay(Rules rules, WordRow row) {
            nodes = 0;
            edges = 0;
            matches = 0;
            borders[0] = addNode();
            int behind = 0;
            for (int i = 0; i < row.count; i++) {
                if (i == behind) {
                    int left = rules.longestAt(row, i);
                    matchBegins[matches] = i;
                    matchLefts[matches] = left;
                    skips[matches] = NONE;
                    if (left < 0) {
                        layWord(row.numbers[i]);
                    } else {
                        layLeft(rules, left);
                    }
                    behind += matchWords[matches - 1];
                }
            }
        }

        private void layWord(int number) {
            matchWords[matches] = 1;
            matchAlternatives[matches] = 1;
            layAlternative(Rules.with(0, 0, number), ALL_TENTHS, nodes);
            endMatch(edges - 1);
        }

        private void layLeft(Rules rules, int left) {
            int alternatives = rules.alternatives[left];
            matchWords[matches] = Rules.lengthOf(rules.leftPhrases[left]);
            matchAlternatives[matches] = alternatives;
            // The BORDER is numbered behind all inner NODES, but EDGES to it come before.
            int behind = nodes;
            for (int a = 0; a < alternatives; a++) {
                behind += Math.max(0, Rules.lengthOf(rules.alternativePhrase(left, a)) - 1);
            }
            int firstEdge = edges;
            for (int a = 0; a < alternatives; a++) {
                layAlternative(rules.alternativePhrase(left, a),
                        rules.alternativeTenths(left, a), behind);
            }
            endMatch(firstEdge);
        }

        private void layAlternative(int phrase, int value, int behind) {
            int node = borders[matches];
            int length = Rules.lengthOf(phrase);
            if (length == 0) {
                skips[matches] = edges;
                addEdge(node, behind, NONE, value);
            }
            for (int i = 0; i < length; i++) {
                int next = i == length - 1 ? behind : addNode();
                addEdge(node, next, Rules.wordAt(phrase, i), i == 0 ? value : ALL_TENTHS);
                node = next;
            }
        }

        private void endMatch(int firstEdge) {
            int border = borders[matches];
            int greatest = 0;
            for (int e = firstEdge; e < edges; e++) {
                if (from[e] == border) {
                    greatest = Math.max(greatest, tenths[e]);
                }
            }
            for (int e = firstEdge; e < edges; e++) {
                heavy[e] = from[e] != border || tenths[e] == greatest;
            }
            matches++;
            borders[matches] = addNode();
        }

        private int addNode() {
            if (nodes < MOST_NODES) {
                firstOut[nodes] = NONE;
                nodes++;
            }
            return nodes - 1;
        }

        private void addEdge(int start, int end, int number, int value) {
            if (edges < MOST_EDGES) {
                from[edges] = start;
                to[edges] = end;
                wordOf[edges] = number;
                tenths[edges] = value;
                nextOut[edges] = firstOut[start];
                firstOut[start] = edges;
                edges++;
            }
        }
    }

    /**
     * The SETS of a GRAPH, and the arcs from SET to SET by a WORD. A row of WORDS leads to one SET
     * at most, so rows are counted here without counting one twice.
     */
    private static final class Sets {
        static final int NODE_LONGS = (MOST_NODES + 63) / 64;
        static final int WORD_LONGS = (MOST_WORDS + 63) / 64;
        static final int FIRST_ROOM = 512;

        int count;
        // Of each SET: its PHRASE ends, the WORDS of the longest, how many there are of those.
        final long[] ways = new long[MOST_SETS];
        final int[] farthest = new int[MOST_SETS];
        final long[] farthestWays = new long[MOST_SETS];
        // The arcs of SET s are those from arcStarts[s] on to arcStarts[s + 1], by rising WORDS.
        final int[] arcStarts = new int[MOST_SETS + 1];
        int[] arcWords = new int[FIRST_ROOM];
        int[] arcTargets = new int[FIRST_ROOM];
        private int arcs;
        private int lastNode;
        // Room for one SET more than there may be: the one that is made, until it is known as new.
        private final long[] members = new long[(MOST_SETS + 1) * NODE_LONGS];
        // SETS with the same least NODE are a chain; NONE ends it.
        private final int[] firstByLeast = new int[MOST_NODES];
        private final int[] nextByLeast = new int[MOST_SETS];
        // The EDGES out of the SET in hand, those of a WORD as a chain.
        private final long[] wordsOut = new long[WORD_LONGS];
        private final int[] firstOfWord = new int[MOST_WORDS];
        private final int[] nextOfWord = new int[MOST_EDGES];

        /** False: there are more than 300. */
        boolean gather(Graph graph) {
            count = 0;
            arcs = 0;
            lastNode = graph.lastNode();
            Arrays.fill(firstByLeast, NONE);
            clearMade();
            put(0);
            closeMade(graph);
            takeMade();
            for (int s = 0; s < count && s < MOST_SETS; s++) {
                arcStarts[s] = arcs;
                findWordsOut(graph, s);
                if (!addArcs(graph)) {
                    return false;
                }
            }
            arcStarts[count] = arcs;
            countWays(graph.nodes);
            return true;
        }

        private void findWordsOut(Graph graph, int set) {
            Arrays.fill(wordsOut, 0L);
            for (int i = 0; i < NODE_LONGS; i++) {
                long rest = members[set * NODE_LONGS + i];
                for (int n = Long.bitCount(rest); n > 0; n--) {
                    addWordsOut(graph, 64 * i + Long.numberOfTrailingZeros(rest));
                    rest &= rest - 1;
                }
            }
        }

        private void addWordsOut(Graph graph, int node) {
            int e = graph.firstOut[node];
            for (int n = 0; n < MOST_EDGES && e >= 0; n++) {
                int number = graph.wordOf[e];
                if (number >= 0) {
                    long bit = 1L << (number & 63);
                    boolean known = (wordsOut[number >>> 6] & bit) != 0;
                    nextOfWord[e] = known ? firstOfWord[number] : NONE;
                    firstOfWord[number] = e;
                    wordsOut[number >>> 6] |= bit;
                }
                e = graph.nextOut[e];
            }
        }

        private boolean addArcs(Graph graph) {
            for (int i = 0; i < WORD_LONGS; i++) {
                long rest = wordsOut[i];
                for (int n = Long.bitCount(rest); n > 0; n--) {
                    int number = 64 * i + Long.numberOfTrailingZeros(rest);
                    rest &= rest - 1;
                    makeTarget(graph, number);
                    int target = takeMade();
                    if (target < 0) {
                        return false;
                    }
                    addArc(number, target);
                }
            }
            return true;
        }

        private void makeTarget(Graph graph, int number) {
            clearMade();
            int e = firstOfWord[number];
            for (int n = 0; n < MOST_EDGES && e >= 0; n++) {
                put(graph.to[e]);
                e = nextOfWord[e];
            }
            closeMade(graph);
        }

        private void addArc(int number, int target) {
            if (arcs >= arcWords.length) {
                int room = 2 * arcWords.length;
                arcWords = Arrays.copyOf(arcWords, room);
                arcTargets = Arrays.copyOf(arcTargets, room);
            }
            arcWords[arcs] = number;
            arcTargets[arcs] = target;
            arcs++;
        }

        private void clearMade() {
            int first = count * NODE_LONGS;
            Arrays.fill(members, first, first + NODE_LONGS, 0L);
        }

        private void put(int node) {
            members[count * NODE_LONGS + (node >>> 6)] |= 1L << (node & 63);
        }

        private boolean has(int set, int node) {
            return ((members[set * NODE_LONGS + (node >>> 6)] >>> (node & 63)) & 1L) != 0;
        }

        private void closeMade(Graph graph) {
            for (int m = 0; m < graph.matches; m++) {
                if (graph.skips[m] >= 0 && has(count, graph.borders[m])) {
                    put(graph.borders[m + 1]);
                }
            }
        }

        /** The number of the SET that was made, an older one if it is the same; NONE: no room. */
        private int takeMade() {
            int least = leastOfMade();
            int s = firstByLeast[least];
            for (int n = 0; n < MOST_SETS && s >= 0; n++) {
                if (sameAsMade(s)) {
                    return s;
                }
                s = nextByLeast[s];
            }
            if (count >= MOST_SETS) {
                return NONE;
            }
            nextByLeast[count] = firstByLeast[least];
            firstByLeast[least] = count;
            count++;
            return count - 1;
        }

        private int leastOfMade() {
            for (int i = 0; i < NODE_LONGS; i++) {
                long part = members[count * NODE_LONGS + i];
                if (part != 0) {
                    return 64 * i + Long.numberOfTrailingZeros(part);
                }
            }
            return 0;
        }

        private boolean sameAsMade(int set) {
            for (int i = 0; i < NODE_LONGS; i++) {
                if (members[set * NODE_LONGS + i] != members[count * NODE_LONGS + i]) {
                    return false;
                }
            }
            return true;
        }

        /** An arc leads to a SET with a greater least NODE, so those come first. */
        private void countWays(int nodes) {
            for (int least = nodes - 1; least >= 0; least--) {
                int s = firstByLeast[least];
                for (int n = 0; n < MOST_SETS && s >= 0; n++) {
                    countWaysOf(s);
                    s = nextByLeast[s];
                }
            }
        }

        private void countWaysOf(int set) {
            long all = endsAt(set) ? 1 : 0;
            int far = 0;
            long farWays = all;
            for (int arc = arcStarts[set]; arc < arcStarts[set + 1]; arc++) {
                int target = arcTargets[arc];
                all += ways[target];
                if (farthest[target] + 1 > far) {
                    far = farthest[target] + 1;
                    farWays = farthestWays[target];
                } else if (farthest[target] + 1 == far) {
                    farWays += farthestWays[target];
                }
            }
            ways[set] = all;
            farthest[set] = far;
            farthestWays[set] = farWays;
        }

        /** Whether a PHRASE ends where a row led to the SET. */
        boolean endsAt(int set) {
            return has(set, lastNode);
        }

        /** The SET behind a WORD; NONE: none. */
        int after(int set, int number) {
            for (int arc = arcStarts[set]; arc < arcStarts[set + 1]; arc++) {
                if (arcWords[arc] == number) {
                    return arcTargets[arc];
                }
            }
            return NONE;
        }

        /** Which PHRASE a row is: how many are ahead of it; NONE: it is none. */
        long numberOf(int[] numbers, int length) {
            long ahead = 0;
            int set = 0;
            for (int i = 0; i < length && i < numbers.length; i++) {
                int next = after(set, numbers[i]);
                if (next < 0) {
                    return NONE;
                }
                ahead += endsAt(set) ? 1 : 0;
                ahead += waysBelow(set, numbers[i]);
                set = next;
            }
            return endsAt(set) ? ahead : NONE;
        }

        private long waysBelow(int set, int number) {
            long below = 0;
            for (int arc = arcStarts[set]; arc < arcStarts[set + 1]; arc++) {
                if (arcWords[arc] < number) {
                    below += ways[arcTargets[arc]];
                }
            }
            return below;
        }
    }

    /** THE GRAPH laid FLAT. */
    private static final class Flat {
        // Well above what is told, so that a difference of two counts is still told rightly:
        // there are fewer than 2^49 PHRASES to take away.
        static final long MOST_COUNTED = 4 * MOST_TOLD;

        int positions;
        // The WORDS of POSITION p are those from starts[p] on to starts[p + 1].
        final int[] starts = new int[MOST_POSITIONS + 1];
        final int[] words = new int[MOST_EDGES];
        // How many rows the POSITIONS from p on spell.
        final long[] spelledFrom = new long[MOST_POSITIONS + 1];
        private final int[] places = new int[MOST_NODES];
        private final long[] wordsAt = new long[MOST_POSITIONS * Sets.WORD_LONGS];

        void lay(Graph graph) {
            Arrays.fill(places, 0);
            Arrays.fill(wordsAt, 0L);
            // In the order of EDGES, all that lead to a NODE come ahead of those out of it.
            for (int e = 0; e < graph.edges; e++) {
                int place = places[graph.from[e]];
                int number = graph.wordOf[e];
                if (number >= 0 && place < MOST_POSITIONS) {
                    wordsAt[place * Sets.WORD_LONGS + (number >>> 6)] |= 1L << (number & 63);
                    place++;
                }
                places[graph.to[e]] = Math.max(places[graph.to[e]], place);
            }
            positions = places[graph.lastNode()];
            listWords();
            countSpelled();
        }

        private void listWords() {
            int listed = 0;
            for (int p = 0; p < positions; p++) {
                starts[p] = listed;
                for (int i = 0; i < Sets.WORD_LONGS; i++) {
                    long rest = wordsAt[p * Sets.WORD_LONGS + i];
                    for (int n = Long.bitCount(rest); n > 0 && listed < words.length; n--) {
                        words[listed] = 64 * i + Long.numberOfTrailingZeros(rest);
                        rest &= rest - 1;
                        listed++;
                    }
                }
            }
            starts[positions] = listed;
        }

        private void countSpelled() {
            spelledFrom[positions] = 1;
            for (int p = positions - 1; p >= 0; p--) {
                spelledFrom[p] = times(spelledFrom[p + 1], choices(p));
            }
        }

        private static long times(long counted, int choices) {
            if (choices > 0 && counted > MOST_COUNTED / choices) {
                return MOST_COUNTED;
            }
            return counted * choices;
        }

        int choices(int position) {
            return starts[position + 1] - starts[position];
        }
    }

    /** Spells the k-th row of a kind, WORD by WORD: it passes by what stands ahead of it. */
    private static final class Speller {
        final int[] spelled = new int[MOST_POSITIONS];
        int length;

        /** PHRASE k, or the k-th that is LOST. */
        void spellPhrase(Picture picture, long k, boolean lost) {
            Sets sets = picture.sets;
            length = 0;
            int set = 0;
            long ahead = k;
            for (int i = 0; i <= MOST_POSITIONS; i++) {
                if (sets.endsAt(set) && !(lost && i == picture.flat.positions)) {
                    if (ahead == 0) {
                        return;
                    }
                    ahead--;
                }
                int next = NONE;
                int end = sets.arcStarts[set + 1];
                for (int arc = sets.arcStarts[set]; arc < end && next < 0; arc++) {
                    int target = sets.arcTargets[arc];
                    long here = sets.ways[target] - (lost ? picture.both(i + 1, target) : 0);
                    if (ahead < here) {
                        next = target;
                        add(sets.arcWords[arc]);
                    } else {
                        ahead -= here;
                    }
                }
                if (next < 0) {
                    return;
                }
                set = next;
            }
        }

        /** The k-th row of FLAT, or of BESIDES. */
        void spellFlat(Picture picture, long k, boolean besides) {
            Flat flat = picture.flat;
            length = 0;
            // Without a SET no row is a PHRASE, so that none is left out.
            int set = besides ? 0 : NONE;
            long ahead = k;
            for (int p = 0; p < flat.positions; p++) {
                boolean found = false;
                for (int i = flat.starts[p]; i < flat.starts[p + 1] && !found; i++) {
                    int next = set < 0 ? NONE : picture.sets.after(set, flat.words[i]);
                    long taken = next < 0 ? 0 : picture.both(p + 1, next);
                    long here = flat.spelledFrom[p + 1] - taken;
                    if (ahead < here) {
                        found = true;
                        set = next;
                        add(flat.words[i]);
                    } else {
                        ahead -= here;
                    }
                }
            }
        }

        /**
         * The least of the heaviest PHRASES. A way has the greatest WEIGHT if each MATCH lays an
         * ALTERNATIVE with the most TENTHS it has; so the least WORD is taken that can come along
         * such ways, until one ends.
         */
        void spellHeaviest(Graph graph, Weigher weigher) {
            length = 0;
            weigher.begin(graph, true);
            for (int i = 0; i < MOST_POSITIONS && weigher.atEnd(graph) == 0; i++) {
                int number = weigher.leastWord(graph);
                add(number);
                weigher.go(graph, number);
            }
        }

        private void add(int number) {
            if (length < spelled.length) {
                spelled[length] = number;
                length++;
            }
        }

        int tell(int i) {
            if (i == -1) {
                return length;
            }
            return i < 0 || i >= length ? BAD : spelled[i];
        }
    }

    /** The greatest WEIGHT of the ways by which a row leads from NODE 0 to each NODE; 0: none. */
    private static final class Weigher {
        private long[] now = new long[MOST_NODES];
        private long[] next = new long[MOST_NODES];
        private boolean heavyOnly;

        void begin(Graph graph, boolean alongHeavy) {
            heavyOnly = alongHeavy;
            Arrays.fill(now, 0, graph.nodes, 0L);
            now[0] = WHOLE_WEIGHT;
            skip(graph, now);
        }

        void go(Graph graph, int number) {
            Arrays.fill(next, 0, graph.nodes, 0L);
            for (int node = 0; node < graph.nodes; node++) {
                if (now[node] > 0) {
                    goFrom(graph, node, number);
                }
            }
            skip(graph, next);
            long[] old = now;
            now = next;
            next = old;
        }

        private void goFrom(Graph graph, int node, int number) {
            int e = graph.firstOut[node];
            for (int n = 0; n < MOST_EDGES && e >= 0; n++) {
                if (graph.wordOf[e] == number) {
                    along(graph, e, now, next);
                }
                e = graph.nextOut[e];
            }
        }

        private void skip(Graph graph, long[] weights) {
            for (int m = 0; m < graph.matches; m++) {
                if (graph.skips[m] >= 0) {
                    along(graph, graph.skips[m], weights, weights);
                }
            }
        }

        private void along(Graph graph, int e, long[] before, long[] behind) {
            if (!heavyOnly || graph.heavy[e]) {
                long come = tenthsOf(before[graph.from[e]], graph.tenths[e]);
                behind[graph.to[e]] = Math.max(behind[graph.to[e]], come);
            }
        }

        /** A way has at most 16 EDGES with less than 10 TENTHS, so the division leaves no rest. */
        private static long tenthsOf(long weight, int tenths) {
            return tenths == ALL_TENTHS ? weight : weight / ALL_TENTHS * tenths;
        }

        long atEnd(Graph graph) {
            return now[graph.lastNode()];
        }

        int leastWord(Graph graph) {
            int least = MOST_WORDS;
            for (int node = 0; node < graph.nodes; node++) {
                if (now[node] > 0) {
                    least = Math.min(least, leastWordFrom(graph, node));
                }
            }
            return least;
        }

        private int leastWordFrom(Graph graph, int node) {
            int least = MOST_WORDS;
            int e = graph.firstOut[node];
            for (int n = 0; n < MOST_EDGES && e >= 0; n++) {
                if (graph.wordOf[e] >= 0 && (!heavyOnly || graph.heavy[e])) {
                    least = Math.min(least, graph.wordOf[e]);
                }
                e = graph.nextOut[e];
            }
            return least;
        }
    }
}
