import java.math.BigInteger;
import java.util.ArrayList;
import java.util.Collections;
import java.util.Comparator;
import java.util.HashSet;
import java.util.LinkedHashMap;
import java.util.List;
import java.util.Map;
import java.util.Set;
import java.util.TreeMap;
import java.util.TreeSet;
import java.util.regex.Matcher;
import java.util.regex.Pattern;

/**
 * Answers the calls of the document by listing everything: all ways of the graph, all phrases.
 * It shares no thought with the class, so that both hardly err in the same way. Where the graph
 * has too many ways to list, {@link #listed} is false and what hangs on phrases is not answered.
 */
final class Model {
    static final long BAD = -1;
    static final long NONE = -2;
    static final long FULL = -3;
    static final BigInteger MOST_TOLD = BigInteger.TEN.pow(18);
    private static final int MOST_WAYS = 4000;

    static final Comparator<List<Integer>> ORDER = (a, b) -> {
        for (int i = 0; i < a.size() && i < b.size(); i++) {
            if (!a.get(i).equals(b.get(i))) {
                return Integer.compare(a.get(i), b.get(i));
            }
        }
        return Integer.compare(a.size(), b.size());
    };

    /** A text that can't be read, with the place of its fault. */
    private static final class Fault extends Exception {
        private static final long serialVersionUID = 1;
        final int place;

        Fault(int place) {
            this.place = place;
        }
    }

    private record Token(String text, int place) {
        boolean isWord() {
            return text.matches("[a-z0-9]{1,12}");
        }
    }

    private record Side(List<String> words, int tenths) { }

    private record Edge(int from, int to, int word, int tenths) { }

    private record Match(int begins, int words, int left, int alternatives, int border) { }

    String text = "";
    private List<String> words = new ArrayList<>();
    private int draftRules = 0;
    private Map<List<Integer>, Map<List<Integer>, Integer>> draft = new LinkedHashMap<>();
    private Map<List<Integer>, Map<List<Integer>, Integer>> force = new LinkedHashMap<>();
    private int version = 0;
    private List<Integer> inputRow = List.of();
    private List<Integer> documentRow = List.of();

    boolean listed;
    private List<Match> matches;
    private List<Edge> edges;
    private int nodes;
    private int sets;
    private int graphVersion;
    private List<List<Integer>> phraseList;
    private Map<List<Integer>, BigInteger> weights;
    private List<List<Integer>> positions;
    private List<List<Integer>> lost;
    private List<BigInteger> spelledRanks;

    Model() {
        graph();
    }

    // ---- texts

    private List<Token> tokens() {
        List<Token> all = new ArrayList<>();
        Matcher found = Pattern.compile("[a-z0-9]+|=>|[^ ]").matcher(text);
        while (found.find()) {
            all.add(new Token(found.group(), found.start()));
        }
        all.add(new Token("", text.length()));
        text = "";
        return all;
    }

    long feed(int a, int b, int c, int d) {
        StringBuilder more = new StringBuilder();
        for (int four : new int[] {a, b, c, d}) {
            for (int i = 3; i >= 0; i--) {
                more.append((char) (four >> 8 * i & 255));
            }
        }
        if (!more.toString().matches("[ -~]{16}")) {
            return BAD;
        }
        if (text.length() + 16 > 208) {
            return FULL;
        }
        text += more;
        return text.length();
    }

    long cut(int n) {
        if (n < 0 || n > text.length()) {
            return BAD;
        }
        text = text.substring(0, text.length() - n);
        return text.length();
    }

    long told(int what) {
        int[] all = {text.length(), words.size(), draftRules, draft.size(), force.size(), version,
            inputRow.size(), documentRow.size(), graphVersion};
        return what < 0 || what > 8 ? BAD : all[what];
    }

    long word(int number, int i) {
        if (number < 0 || number >= words.size()) {
            return BAD;
        }
        String word = words.get(number);
        return i == -1 ? word.length() : i < 0 || i >= word.length() ? BAD : word.charAt(i);
    }

    // ---- rules

    private final class Reader {
        final List<Token> all = tokens();
        int at = 0;

        Token now() {
            return all.get(at);
        }

        boolean passes(String token) {
            boolean so = now().text.equals(token);
            at += so ? 1 : 0;
            return so;
        }

        Fault fault() {
            return new Fault(now().place);
        }

        List<Side> sides() throws Fault {
            List<Side> sides = new ArrayList<>();
            do {
                if (sides.size() == 8) {
                    throw fault();
                }
                sides.add(side());
            } while (passes(","));
            return sides;
        }

        Side side() throws Fault {
            List<String> side = new ArrayList<>();
            do {
                if (!now().isWord() || side.size() == 4) {
                    throw fault();
                }
                side.add(now().text);
                at++;
            } while (now().text.matches("[a-z0-9]+"));
            int tenths = 10;
            if (passes("^")) {
                if (!now().text.matches("[1-9]|10")) {
                    throw fault();
                }
                tenths = Integer.parseInt(now().text);
                at++;
            }
            return new Side(side, tenths);
        }

        List<String> row(int most) throws Fault {
            List<String> row = new ArrayList<>();
            while (now().isWord() && row.size() < most) {
                row.add(now().text);
                at++;
            }
            end();
            return row;
        }

        void end() throws Fault {
            if (at != all.size() - 1) {
                throw fault();
            }
        }
    }

    /** The words as they would be with these; null: there is no room. */
    private List<String> wordsWith(List<String> more) {
        List<String> all = new ArrayList<>(words);
        for (String word : more) {
            if (!all.contains(word)) {
                all.add(word);
            }
        }
        return all.size() > 200 ? null : all;
    }

    private static List<Integer> numbers(List<String> all, List<String> row) {
        List<Integer> numbers = new ArrayList<>();
        for (String word : row) {
            numbers.add(all.indexOf(word));
        }
        return numbers;
    }

    private static Map<List<Integer>, Map<List<Integer>, Integer>> copy(
            Map<List<Integer>, Map<List<Integer>, Integer>> rules) {
        Map<List<Integer>, Map<List<Integer>, Integer>> copy = new LinkedHashMap<>();
        rules.forEach((left, alternatives) -> copy.put(left, new LinkedHashMap<>(alternatives)));
        return copy;
    }

    long rule(boolean both) {
        Reader reader = new Reader();
        List<Side> ahead;
        List<Side> behind = null;
        try {
            ahead = reader.sides();
            if (reader.passes("=>")) {
                behind = reader.at == reader.all.size() - 1 ? List.of() : reader.sides();
            }
            reader.end();
        } catch (Fault fault) {
            return -10 - fault.place;
        }
        List<String> inOrder = new ArrayList<>();
        ahead.forEach(side -> inOrder.addAll(side.words));
        (behind == null ? List.<Side>of() : behind).forEach(side -> inOrder.addAll(side.words));
        List<String> all = wordsWith(inOrder);
        if (all == null || draftRules == 24) {
            return FULL;
        }
        Map<List<Integer>, Map<List<Integer>, Integer>> next = copy(draft);
        if (behind == null) {
            lay(next, all, ahead, ahead);
        } else if (behind.isEmpty()) {
            lay(next, all, ahead, List.of(new Side(List.of(), 10)));
        } else {
            lay(next, all, ahead, behind);
            if (both) {
                lay(next, all, behind, ahead);
            }
        }
        if (next.size() > 60 || next.values().stream().anyMatch(one -> one.size() > 8)) {
            return FULL;
        }
        words = all;
        draft = next;
        return ++draftRules;
    }

    private static void lay(Map<List<Integer>, Map<List<Integer>, Integer>> rules, List<String> all,
            List<Side> lefts, List<Side> alternatives) {
        for (Side left : lefts) {
            Map<List<Integer>, Integer> of =
                    rules.computeIfAbsent(numbers(all, left.words), key -> new LinkedHashMap<>());
            for (Side side : alternatives) {
                of.merge(numbers(all, side.words), side.tenths, Math::max);
            }
        }
    }

    long fresh() {
        int had = draftRules;
        draftRules = 0;
        draft = new LinkedHashMap<>();
        return had;
    }

    long reload() {
        force = copy(draft);
        return ++version;
    }

    private List<List<Integer>> lefts() {
        return new ArrayList<>(force.keySet());
    }

    long left(int l, int i) {
        if (l < 0 || l >= force.size()) {
            return BAD;
        }
        List<Integer> left = lefts().get(l);
        return switch (i) {
            case -1 -> left.size();
            case -2 -> force.get(left).size();
            case -3 -> goesRound(left) ? 1 : 0;
            default -> i < 0 || i >= left.size() ? BAD : left.get(i);
        };
    }

    private Set<List<Integer>> leads(List<Integer> left) {
        Set<List<Integer>> to = new HashSet<>();
        for (List<Integer> alternative : force.get(left).keySet()) {
            for (List<Integer> other : force.keySet()) {
                if (!alternative.equals(left) && Collections.indexOfSubList(alternative, other) >= 0) {
                    to.add(other);
                }
            }
        }
        return to;
    }

    private boolean goesRound(List<Integer> left) {
        Set<List<Integer>> reached = leads(left);
        for (int size = -1; size != reached.size();) {
            size = reached.size();
            for (List<Integer> one : new ArrayList<>(reached)) {
                reached.addAll(leads(one));
            }
        }
        return reached.contains(left);
    }

    long alternative(int l, int a, int i) {
        if (l < 0 || l >= force.size() || a < 0 || a >= force.get(lefts().get(l)).size()) {
            return BAD;
        }
        Map<List<Integer>, Integer> of = force.get(lefts().get(l));
        List<Integer> one = new ArrayList<>(of.keySet()).get(a);
        return switch (i) {
            case -1 -> one.size();
            case -2 -> of.get(one);
            default -> i < 0 || i >= one.size() ? BAD : one.get(i);
        };
    }

    // ---- the graph

    private long takeRow(int most, boolean isInput) {
        List<String> row;
        try {
            row = new Reader().row(most);
        } catch (Fault fault) {
            return -10 - fault.place;
        }
        List<String> all = wordsWith(row);
        if (all == null) {
            return FULL;
        }
        words = all;
        List<Integer> numbers = numbers(all, row);
        if (isInput) {
            inputRow = numbers;
        } else {
            documentRow = numbers;
        }
        return numbers.size();
    }

    long input() {
        return takeRow(16, true);
    }

    private List<Integer> longestLeft(int i) {
        List<Integer> longest = List.of();
        for (List<Integer> left : force.keySet()) {
            int end = i + left.size();
            if (end <= inputRow.size() && inputRow.subList(i, end).equals(left) && left.size() > longest.size()) {
                longest = left;
            }
        }
        return longest;
    }

    long longest(int i) {
        return i < 0 || i >= inputRow.size() ? BAD : longestLeft(i).size();
    }

    long graph() {
        List<Match> newMatches = new ArrayList<>();
        List<Edge> newEdges = new ArrayList<>();
        int count = 1;
        long ways = 1;
        for (int i = 0; i < inputRow.size();) {
            List<Integer> left = longestLeft(i);
            Map<List<Integer>, Integer> of = left.isEmpty() ? Map.of(List.of(inputRow.get(i)), 10) : force.get(left);
            int border = count - 1;
            int inner = of.keySet().stream().mapToInt(one -> Math.max(0, one.size() - 1)).sum();
            for (Map.Entry<List<Integer>, Integer> one : of.entrySet()) {
                int node = border;
                List<Integer> row = one.getKey().isEmpty() ? List.of((int) NONE) : one.getKey();
                for (int w = 0; w < row.size(); w++) {
                    int to = w == row.size() - 1 ? border + inner + 1 : count++;
                    newEdges.add(new Edge(node, to, row.get(w), w == 0 ? one.getValue() : 10));
                    node = to;
                }
            }
            count++;
            int length = Math.max(1, left.size());
            newMatches.add(new Match(i, length, left.isEmpty() ? -2 : lefts().indexOf(left), of.size(), border));
            ways = Math.min(MOST_WAYS + 1L, ways * of.size());
            i += length;
        }
        int newSets = countSets(newEdges);
        if (newSets > 300) {
            return FULL;
        }
        matches = newMatches;
        edges = newEdges;
        nodes = count;
        sets = newSets;
        graphVersion = version;
        listed = ways <= MOST_WAYS;
        layFlat();
        if (listed) {
            listPhrases();
        }
        return nodes;
    }

    private static Set<Integer> closed(List<Edge> edges, Set<Integer> set) {
        Set<Integer> all = new TreeSet<>(set);
        for (int size = -1; size != all.size();) {
            size = all.size();
            for (Edge edge : edges) {
                if (edge.word < 0 && all.contains(edge.from)) {
                    all.add(edge.to);
                }
            }
        }
        return all;
    }

    private static int countSets(List<Edge> edges) {
        List<Set<Integer>> order = new ArrayList<>(List.of(closed(edges, Set.of(0))));
        Set<Set<Integer>> known = new HashSet<>(order);
        for (int s = 0; s < order.size() && order.size() <= 300; s++) {
            Map<Integer, Set<Integer>> byWord = new TreeMap<>();
            for (Edge edge : edges) {
                if (edge.word >= 0 && order.get(s).contains(edge.from)) {
                    byWord.computeIfAbsent(edge.word, key -> new TreeSet<>()).add(edge.to);
                }
            }
            for (Set<Integer> next : byWord.values()) {
                Set<Integer> set = closed(edges, next);
                if (known.add(set)) {
                    order.add(set);
                }
            }
        }
        return order.size();
    }

    long size(int what) {
        int[] all = {nodes, edges.size(), matches.size(), sets, positions.size()};
        return what < 0 || what > 4 ? BAD : all[what];
    }

    long match(int k, int what) {
        if (k < 0 || k >= matches.size() || what < 0 || what > 4) {
            return BAD;
        }
        Match one = matches.get(k);
        return new int[] {one.begins, one.words, one.left, one.alternatives, one.border}[what];
    }

    long edge(int k, int what) {
        if (k < 0 || k >= edges.size() || what < 0 || what > 3) {
            return BAD;
        }
        Edge one = edges.get(k);
        return new int[] {one.from, one.to, one.word, one.tenths}[what];
    }

    // ---- phrases

    private void listPhrases() {
        weights = new TreeMap<>(ORDER);
        walk(0, new ArrayList<>(), BigInteger.TEN.pow(16), BigInteger.ONE);
        phraseList = new ArrayList<>(weights.keySet());
        lost = new ArrayList<>();
        spelledRanks = new ArrayList<>();
        for (List<Integer> phrase : phraseList) {
            BigInteger rank = flatRank(phrase);
            if (rank == null) {
                lost.add(phrase);
            } else {
                spelledRanks.add(rank);
            }
        }
    }

    private void walk(int node, List<Integer> row, BigInteger times, BigInteger by) {
        if (node == nodes - 1) {
            weights.merge(List.copyOf(row), times.divide(by), BigInteger::max);
            if (times.mod(by).signum() != 0) {
                throw new IllegalStateException("a weight is not whole");
            }
            return;
        }
        for (Edge edge : edges) {
            if (edge.from == node) {
                if (edge.word >= 0) {
                    row.add(edge.word);
                }
                walk(edge.to, row, times.multiply(BigInteger.valueOf(edge.tenths)), by.multiply(BigInteger.TEN));
                if (edge.word >= 0) {
                    row.remove(row.size() - 1);
                }
            }
        }
    }

    long phrases() {
        return phraseList.size();
    }

    private static long tell(List<Integer> row, int i) {
        return i == -1 ? row.size() : i < 0 || i >= row.size() ? BAD : row.get(i);
    }

    long phrase(long k, int i) {
        return k < 0 || k >= phraseList.size() ? BAD : tell(phraseList.get((int) k), i);
    }

    long weight(long k) {
        return k < 0 || k >= phraseList.size() ? BAD : weights.get(phraseList.get((int) k)).longValueExact();
    }

    long which() {
        try {
            List<Integer> row = numbers(words, new Reader().row(1000));
            int found = listed ? phraseList.indexOf(row) : -1;
            return found < 0 ? NONE : found;
        } catch (Fault fault) {
            return -10 - fault.place;
        }
    }

    long heaviest() {
        long best = 0;
        for (long k = 1; k < phraseList.size(); k++) {
            best = weight(k) > weight(best) ? k : best;
        }
        return best;
    }

    // ---- flat

    private int place(int node) {
        int place = 0;
        for (Edge edge : edges) {
            if (edge.to == node) {
                place = Math.max(place, placesKnown.get(edge.from) + (edge.word >= 0 ? 1 : 0));
            }
        }
        return place;
    }

    private final List<Integer> placesKnown = new ArrayList<>();

    private void layFlat() {
        placesKnown.clear();
        for (int node = 0; node < nodes; node++) {
            placesKnown.add(place(node));
        }
        positions = new ArrayList<>();
        for (int p = 0; p < placesKnown.get(nodes - 1); p++) {
            Set<Integer> at = new TreeSet<>();
            for (Edge edge : edges) {
                if (edge.word >= 0 && placesKnown.get(edge.from) == p) {
                    at.add(edge.word);
                }
            }
            positions.add(new ArrayList<>(at));
        }
    }

    private BigInteger flatCount() {
        BigInteger count = BigInteger.ONE;
        for (List<Integer> position : positions) {
            count = count.multiply(BigInteger.valueOf(position.size()));
        }
        return count;
    }

    /** How many rows of FLAT are ahead of this one; null: FLAT does not spell it. */
    private BigInteger flatRank(List<Integer> row) {
        if (row.size() != positions.size()) {
            return null;
        }
        BigInteger rank = BigInteger.ZERO;
        for (int p = 0; p < row.size(); p++) {
            int digit = positions.get(p).indexOf(row.get(p));
            if (digit < 0) {
                return null;
            }
            rank = rank.multiply(BigInteger.valueOf(positions.get(p).size())).add(BigInteger.valueOf(digit));
        }
        return rank;
    }

    private List<Integer> flatRow(BigInteger rank) {
        List<Integer> row = new ArrayList<>();
        BigInteger rest = rank;
        for (int p = positions.size() - 1; p >= 0; p--) {
            BigInteger[] parts = rest.divideAndRemainder(BigInteger.valueOf(positions.get(p).size()));
            row.add(0, positions.get(p).get(parts[1].intValue()));
            rest = parts[0];
        }
        return row;
    }

    private List<Integer> besidesRow(long k) {
        BigInteger rank = BigInteger.valueOf(k);
        for (BigInteger phrase : spelledRanks) {
            if (phrase.compareTo(rank) <= 0) {
                rank = rank.add(BigInteger.ONE);
            }
        }
        return flatRow(rank);
    }

    long position(int p, int i) {
        return p < 0 || p >= positions.size() ? BAD : tell(positions.get(p), i);
    }

    long rows(int kind) {
        return switch (kind) {
            case 0 -> flatCount().min(MOST_TOLD).longValueExact();
            case 1 -> lost.size();
            case 2 -> flatCount().subtract(BigInteger.valueOf(spelledRanks.size())).min(MOST_TOLD).longValueExact();
            default -> BAD;
        };
    }

    long row(int kind, long k, int i) {
        if (kind < 0 || kind > 2 || k < 0 || k >= rows(kind)) {
            return BAD;
        }
        return switch (kind) {
            case 0 -> tell(flatRow(BigInteger.valueOf(k)), i);
            case 1 -> tell(lost.get((int) k), i);
            default -> tell(besidesRow(k), i);
        };
    }

    // ---- documents

    long document() {
        return takeRow(40, false);
    }

    private List<List<Integer>> standing(int place) {
        List<List<Integer>> all = new ArrayList<>();
        for (List<Integer> phrase : phraseList) {
            int end = place + phrase.size();
            if (!phrase.isEmpty() && end <= documentRow.size() && documentRow.subList(place, end).equals(phrase)) {
                all.add(phrase);
            }
        }
        return all;
    }

    private List<Integer> hitPlaces() {
        List<Integer> places = new ArrayList<>();
        for (int place = 0; place < documentRow.size(); place++) {
            if (!standing(place).isEmpty()) {
                places.add(place);
            }
        }
        return places;
    }

    long hits() {
        return hitPlaces().size();
    }

    long hit(int k, int what) {
        List<Integer> places = hitPlaces();
        if (k < 0 || k >= places.size()) {
            return BAD;
        }
        List<List<Integer>> all = standing(places.get(k));
        return switch (what) {
            case 0 -> places.get(k);
            case 1 -> all.stream().mapToInt(List::size).max().orElse(0);
            case 2 -> all.size();
            default -> BAD;
        };
    }

    long hitWeight(int k) {
        List<Integer> places = hitPlaces();
        if (k < 0 || k >= places.size()) {
            return BAD;
        }
        return standing(places.get(k)).stream().map(weights::get).max(BigInteger::compareTo).orElseThrow().longValueExact();
    }
}
