import java.math.BigDecimal;
import java.math.BigInteger;
import java.util.ArrayList;
import java.util.HashMap;
import java.util.List;
import java.util.Map;
import java.util.Set;
import java.util.TreeMap;
import java.util.TreeSet;

/**
 * Answers for graphs with too many phrases to list. It has only the edges and positions of a
 * {@link Model}; it counts without a limit, looks word by word whether the flat graph spells a row,
 * and weighs with fractions.
 */
final class LargeModel {
    private record Edge(int from, int to, int word, BigDecimal weight) { }

    /** Where a row has led: to nodes, behind so many words, and whether all are in their positions. */
    private record Reached(Set<Integer> nodes, int words, boolean inFlat) { }

    private final List<Edge> edges = new ArrayList<>();
    private final List<List<Integer>> positions = new ArrayList<>();
    private final int last;
    private final Map<Set<Integer>, BigInteger> phrasesKnown = new HashMap<>();
    private final Map<Reached, BigInteger> spelledKnown = new HashMap<>();
    private final Map<Set<Integer>, Map<Integer, Set<Integer>>> stepsKnown = new HashMap<>();

    LargeModel(Model model) {
        for (int k = 0; k < model.size(1); k++) {
            edges.add(new Edge((int) model.edge(k, 0), (int) model.edge(k, 1), (int) model.edge(k, 2),
                    BigDecimal.valueOf(model.edge(k, 3), 1)));
        }
        for (int p = 0; p < model.size(4); p++) {
            List<Integer> words = new ArrayList<>();
            for (int i = 0; i < model.position(p, -1); i++) {
                words.add((int) model.position(p, i));
            }
            positions.add(words);
        }
        last = (int) model.size(0) - 1;
    }

    // ---- rows

    private Reached start() {
        return new Reached(closed(Set.of(0)), 0, true);
    }

    private Set<Integer> closed(Set<Integer> nodes) {
        Set<Integer> all = new TreeSet<>(nodes);
        // Edges stand in the order of their nodes, so one look at each is enough.
        for (Edge edge : edges) {
            if (edge.word < 0 && all.contains(edge.from)) {
                all.add(edge.to);
            }
        }
        return all;
    }

    private Map<Integer, Set<Integer>> steps(Set<Integer> nodes) {
        Map<Integer, Set<Integer>> known = stepsKnown.get(nodes);
        if (known == null) {
            Map<Integer, Set<Integer>> open = new TreeMap<>();
            for (Edge edge : edges) {
                if (edge.word >= 0 && nodes.contains(edge.from)) {
                    open.computeIfAbsent(edge.word, word -> new TreeSet<>()).add(edge.to);
                }
            }
            open.replaceAll((word, to) -> closed(to));
            known = open;
            stepsKnown.put(nodes, known);
        }
        return known;
    }

    private Reached step(Reached from, int word) {
        boolean inFlat = from.inFlat && from.words < positions.size() && positions.get(from.words).contains(word);
        return new Reached(steps(from.nodes).getOrDefault(word, Set.of()), from.words + 1, inFlat);
    }

    private BigInteger phrasesFrom(Set<Integer> nodes) {
        BigInteger known = phrasesKnown.get(nodes);
        if (known == null) {
            known = nodes.contains(last) ? BigInteger.ONE : BigInteger.ZERO;
            for (Set<Integer> next : steps(nodes).values()) {
                known = known.add(phrasesFrom(next));
            }
            phrasesKnown.put(nodes, known);
        }
        return known;
    }

    /** How many of the phrases that begin like this the flat graph spells. */
    private BigInteger spelledFrom(Reached at) {
        if (!at.inFlat || at.nodes.isEmpty()) {
            return BigInteger.ZERO;
        }
        if (at.words == positions.size()) {
            return at.nodes.contains(last) ? BigInteger.ONE : BigInteger.ZERO;
        }
        BigInteger known = spelledKnown.get(at);
        if (known == null) {
            known = BigInteger.ZERO;
            for (int word : positions.get(at.words)) {
                known = known.add(spelledFrom(step(at, word)));
            }
            spelledKnown.put(at, known);
        }
        return known;
    }

    private BigInteger flatFrom(Reached at) {
        if (!at.inFlat) {
            return BigInteger.ZERO;
        }
        BigInteger count = BigInteger.ONE;
        for (int p = at.words; p < positions.size(); p++) {
            count = count.multiply(BigInteger.valueOf(positions.get(p).size()));
        }
        return count;
    }

    /** Kinds 0, 1, 2 are those of rows(); 3 are the phrases. */
    private BigInteger from(int kind, Reached at) {
        return switch (kind) {
            case 0 -> flatFrom(at);
            case 1 -> phrasesFrom(at.nodes).subtract(spelledFrom(at));
            case 2 -> flatFrom(at).subtract(spelledFrom(at));
            default -> phrasesFrom(at.nodes);
        };
    }

    private boolean ends(int kind, Reached at) {
        boolean phrase = at.nodes.contains(last);
        boolean flat = at.inFlat && at.words == positions.size();
        return switch (kind) {
            case 0 -> flat;
            case 1 -> phrase && !flat;
            case 2 -> flat && !phrase;
            default -> phrase;
        };
    }

    BigInteger count(int kind) {
        return from(kind, start());
    }

    List<Integer> row(int kind, BigInteger k) {
        List<Integer> row = new ArrayList<>();
        Reached at = start();
        BigInteger ahead = k;
        while (!ends(kind, at) || ahead.signum() > 0) {
            ahead = ends(kind, at) ? ahead.subtract(BigInteger.ONE) : ahead;
            int word = 0;
            while (from(kind, step(at, word)).compareTo(ahead) <= 0) {
                ahead = ahead.subtract(from(kind, step(at, word)));
                word++;
            }
            row.add(word);
            at = step(at, word);
        }
        return row;
    }

    /** How many phrases are ahead of this one; null: it is none. */
    BigInteger rank(List<Integer> row) {
        Reached at = start();
        BigInteger ahead = BigInteger.ZERO;
        for (int word : row) {
            ahead = ends(3, at) ? ahead.add(BigInteger.ONE) : ahead;
            for (Map.Entry<Integer, Set<Integer>> one : steps(at.nodes).entrySet()) {
                ahead = one.getKey() < word ? ahead.add(phrasesFrom(one.getValue())) : ahead;
            }
            at = step(at, word);
        }
        return ends(3, at) ? ahead : null;
    }

    // ---- weights

    /** The greatest weight by which a row leads to each node, before what goes on without a word. */
    private Map<Integer, BigDecimal> weigh(Map<Integer, BigDecimal> before, int word) {
        Map<Integer, BigDecimal> behind = new TreeMap<>();
        Map<Integer, BigDecimal> all = skip(before);
        for (Edge edge : edges) {
            if (edge.word == word && all.containsKey(edge.from)) {
                behind.merge(edge.to, all.get(edge.from).multiply(edge.weight), BigDecimal::max);
            }
        }
        return behind;
    }

    private Map<Integer, BigDecimal> skip(Map<Integer, BigDecimal> weights) {
        Map<Integer, BigDecimal> all = new TreeMap<>(weights);
        for (Edge edge : edges) {
            if (edge.word < 0 && all.containsKey(edge.from)) {
                all.merge(edge.to, all.get(edge.from).multiply(edge.weight), BigDecimal::max);
            }
        }
        return all;
    }

    /** The weight of a row that is a phrase; null: it is none. */
    BigDecimal weight(List<Integer> row) {
        Map<Integer, BigDecimal> weights = Map.of(0, BigDecimal.ONE);
        for (int word : row) {
            weights = weigh(weights, word);
        }
        return skip(weights).get(last);
    }

    /** The least of the heaviest phrases: word by word the least that still leads to one. */
    List<Integer> heaviest() {
        BigDecimal[] rest = new BigDecimal[last + 1];
        java.util.Arrays.fill(rest, BigDecimal.ZERO);
        rest[last] = BigDecimal.ONE;
        for (int k = edges.size() - 1; k >= 0; k--) {
            Edge edge = edges.get(k);
            rest[edge.from] = rest[edge.from].max(rest[edge.to].multiply(edge.weight));
        }
        List<Integer> row = new ArrayList<>();
        Map<Integer, BigDecimal> weights = Map.of(0, BigDecimal.ONE);
        while (skip(weights).getOrDefault(last, BigDecimal.ZERO).compareTo(rest[0]) != 0) {
            int word = 0;
            while (best(weigh(weights, word), rest).compareTo(rest[0]) != 0) {
                word++;
            }
            row.add(word);
            weights = weigh(weights, word);
        }
        return row;
    }

    private static BigDecimal best(Map<Integer, BigDecimal> weights, BigDecimal[] rest) {
        BigDecimal best = BigDecimal.ZERO;
        for (Map.Entry<Integer, BigDecimal> one : weights.entrySet()) {
            best = best.max(one.getValue().multiply(rest[one.getKey()]));
        }
        return best;
    }
}
