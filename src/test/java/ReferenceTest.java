import java.util.ArrayList;
import java.util.HashMap;
import java.util.HashSet;
import java.util.List;
import java.util.Map;
import java.util.Random;
import java.util.Set;
import java.util.TreeMap;

/** Long runs of calls, from fixed seeds, against a slow model that follows the document's words step by step. */
public final class ReferenceTest {
    private static final int NONE = FoldedGroups.NONE;
    private static final int FULL = FoldedGroups.FULL;
    private static final int RUNS = 3000;
    private static final int CALLS = 512;

    private static int wrong = 0;
    private static final Map<String, Integer> seen = new HashMap<>();

    public static void main(String[] args) {
        for (int seed = 0; seed < RUNS && wrong < 20; seed++) {
            new Run(seed).play();
        }
        System.out.println("the runs met: " + new TreeMap<>(seen));
        // a run that never meets the edges would say nothing about them
        for (String edge : List.of("letter FULL", "take FULL", "generate FULL", "conjugate FULL", "meet FULL",
                "join FULL", "figure 3", "normal", "contains", "member", "written")) {
            if (seen.getOrDefault(edge, 0) < 20) {
                wrong++;
                System.out.println("the runs met this too seldom: " + edge);
            }
        }
        System.out.println(wrong == 0 ? "all answers are as the model's" : wrong + " things are wrong");
        if (wrong != 0) {
            System.exit(1);
        }
    }

    record Edge(int from, int letter, int to) { }

    /** One run of random calls on a new object and on the model. */
    private static final class Run {
        private final int seed;
        private final Random random;
        private final int letters;
        private final int usual;
        private final boolean longWords;
        private final FoldedGroups tested;
        private final Model model;
        private final StringBuilder calls = new StringBuilder();
        private int made = 0;

        Run(int seed) {
            this.seed = seed;
            this.random = new Random(seed);
            this.letters = 1 + seed % 3;
            this.usual = 1 + random.nextInt(letters);
            this.longWords = random.nextInt(3) == 0;
            this.tested = new FoldedGroups(letters);
            this.model = new Model(letters);
        }

        void play() {
            while (made < CALLS && wrong < 20) {
                int kind = random.nextInt(10);
                if (kind < 3) {
                    typeWord();
                } else if (kind < 6) {
                    change();
                    ask();
                } else {
                    ask();
                }
            }
        }

        private void typeWord() {
            if (random.nextInt(3) > 0) {
                compare("clear()", tested.clear(), model.clear());
            }
            int count = random.nextInt(4) > 0 ? 1 + random.nextInt(4) : 1 + random.nextInt(30);
            if (longWords) {
                count = 4 + random.nextInt(18);
            }
            for (int n = 0; n < count && made < CALLS; n++) {
                int x = random.nextInt(3) == 0 ? usual : random.nextInt(2 * letters + 1) - letters;
                // most words of random letters would fall together again
                if (longWords && x == -model.at(model.typed.size() - 1)) {
                    x = -x;
                }
                int answer = model.letter(x);
                compare("letter(" + x + ")", tested.letter(x), answer);
                note("letter", answer);
            }
        }

        private void change() {
            int d = subgroup();
            int x = subgroup();
            int y = subgroup();
            int answer;
            switch (random.nextInt(10)) {
                case 0, 1, 2, 3:
                    answer = model.generate(d);
                    compare("generate(" + d + ")", tested.generate(d), answer);
                    note("generate", answer);
                    break;
                case 4:
                    answer = model.conjugate(d, x);
                    compare("conjugate(" + d + ", " + x + ")", tested.conjugate(d, x), answer);
                    note("conjugate", answer);
                    break;
                case 5, 6:
                    answer = model.meet(d, x, y);
                    compare("meet(" + d + ", " + x + ", " + y + ")", tested.meet(d, x, y), answer);
                    note("meet", answer);
                    break;
                case 7:
                    answer = model.join(d, x, y);
                    compare("join(" + d + ", " + x + ", " + y + ")", tested.join(d, x, y), answer);
                    note("join", answer);
                    break;
                case 8:
                    int k = element(x);
                    answer = model.take(x, k);
                    compare("take(" + x + ", " + k + ")", tested.take(x, k), answer);
                    note("take", answer);
                    break;
                default:
                    if (random.nextInt(3) == 0) {
                        compare("drop(" + d + ")", tested.drop(d), model.drop(d));
                    } else {
                        compare("invert()", tested.invert(), model.invert());
                    }
            }
        }

        private void ask() {
            for (int n = random.nextInt(6); n >= 0 && made < CALLS; n--) {
                askOnce(subgroup());
            }
        }

        private void askOnce(int s) {
            int k = element(s);
            int i = random.nextInt(26) - 1;
            int answer;
            switch (random.nextInt(10)) {
                case 0:
                    compare("at(" + i + ")", tested.at(i), model.at(i));
                    break;
                case 1:
                    answer = model.member(s) ? 1 : 0;
                    compare("member(" + s + ")", tested.member(s) ? 1 : 0, answer);
                    note("member", answer == 1 && model.typed.size() > 0);
                    break;
                case 2:
                    compare("trace(" + s + ")", tested.trace(s), model.trace(s));
                    break;
                case 3:
                    i = random.nextInt(5) - 1;
                    answer = model.written(s, i);
                    compare("written(" + s + ", " + i + ")", tested.written(s, i), answer);
                    note("written", answer != 0);
                    break;
                case 4:
                    compare("length(" + s + ", " + k + ")", tested.length(s, k), model.length(s, k));
                    break;
                case 5:
                    compare("basis(" + s + ", " + k + ", " + i + ")", tested.basis(s, k, i), model.basis(s, k, i));
                    break;
                case 6:
                    int v = random.nextInt((model.has(s) ? model.graphs.get(s).size() : 1) + 2) - 1;
                    int x = random.nextInt(2 * letters + 3) - letters - 1;
                    compare("target(" + s + ", " + v + ", " + x + ")", tested.target(s, v, x), model.target(s, v, x));
                    break;
                case 7:
                    int what = random.nextInt(6) - 1;
                    answer = model.figure(s, what);
                    compare("figure(" + s + ", " + what + ")", tested.figure(s, what), answer);
                    note("figure 3", what == 3 && answer > 1);
                    break;
                case 8:
                    int y = subgroup();
                    answer = model.contains(s, y) ? 1 : 0;
                    compare("contains(" + s + ", " + y + ")", tested.contains(s, y) ? 1 : 0, answer);
                    note("contains", answer == 1 && s != y && model.figure(y, 2) > 0);
                    break;
                default:
                    answer = model.normal(s) ? 1 : 0;
                    compare("normal(" + s + ")", tested.normal(s) ? 1 : 0, answer);
                    note("normal", answer == 1 && letters > 1 && model.figure(s, 3) > 1);
            }
        }

        private int subgroup() {
            return random.nextInt(20) == 0 ? random.nextInt(8) - 2 : random.nextInt(4);
        }

        private int element(int s) {
            return random.nextInt((model.has(s) ? model.graphs.get(s).basis().size() : 1) + 2) - 1;
        }

        private void note(String call, int answer) {
            note(call + " FULL", answer == FULL);
        }

        private void note(String edge, boolean met) {
            if (met) {
                seen.merge(edge, 1, Integer::sum);
            }
        }

        private void compare(String call, int got, int want) {
            made++;
            calls.append(call).append(" -> ").append(want).append("; ");
            if (got != want) {
                wrong++;
                System.out.println("seed " + seed + ", " + letters + " letters: " + call + " answered " + got
                    + ", due is " + want + ", after: " + calls);
            }
        }
    }

    /** The document, word for word and without thought for speed. */
    private static final class Model {
        private final int letters;
        private List<Integer> typed = new ArrayList<>();
        private final List<Picture> graphs = new ArrayList<>();

        Model(int letters) {
            this.letters = letters;
            for (int s = 0; s < 4; s++) {
                graphs.add(new Picture(letters));
            }
        }

        boolean has(int s) {
            return s >= 0 && s <= 3;
        }

        int letter(int x) {
            if (x == 0 || Math.abs(x) > letters) {
                return NONE;
            }
            List<Integer> word = together(typed, List.of(x));
            if (word.size() > 24) {
                return FULL;
            }
            typed = word;
            return word.size();
        }

        int clear() {
            int had = typed.size();
            typed = new ArrayList<>();
            return had;
        }

        int invert() {
            typed = inverse(typed);
            return typed.size();
        }

        int at(int i) {
            return i >= 0 && i < typed.size() ? typed.get(i) : 0;
        }

        int take(int s, int k) {
            int size = length(s, k);
            if (size == NONE || size > 24) {
                return size == NONE ? NONE : FULL;
            }
            typed = new ArrayList<>(graphs.get(s).basis().get(k));
            return size;
        }

        int generate(int s) {
            if (!has(s)) {
                return NONE;
            }
            Picture made = new Picture(letters);
            made.addCopy(graphs.get(s));
            made.addRing(typed);
            return settle(s, made);
        }

        int drop(int s) {
            if (!has(s)) {
                return NONE;
            }
            int had = graphs.get(s).size();
            graphs.set(s, new Picture(letters));
            return had;
        }

        int conjugate(int d, int s) {
            if (!has(d) || !has(s)) {
                return NONE;
            }
            Picture made = new Picture(letters);
            made.addCopy(graphs.get(s));
            made.base = made.addRow(typed);
            int answer = settle(d, made);
            if (answer != FULL && s != d) {
                check(d, s);
            }
            return answer;
        }

        /** That the moved words of s are in d, by putting together alone. */
        private void check(int d, int s) {
            for (List<Integer> element : graphs.get(s).basis()) {
                List<Integer> moved = together(together(inverse(typed), element), typed);
                if (graphs.get(d).walk(moved, 0) != 0) {
                    throw new IllegalStateException("the model is wrong");
                }
            }
        }

        int meet(int d, int x, int y) {
            if (!has(d) || !has(x) || !has(y)) {
                return NONE;
            }
            Picture a = graphs.get(x);
            Picture b = graphs.get(y);
            Picture made = new Picture(letters);
            List<Integer> pairs = new ArrayList<>(List.of(0));
            for (int p = 0; p < pairs.size(); p++) {
                for (int l = -letters; l <= letters; l++) {
                    int v = l == 0 ? NONE : a.lead(pairs.get(p) / 100, l);
                    int w = l == 0 ? NONE : b.lead(pairs.get(p) % 100, l);
                    if (v == NONE || w == NONE) {
                        continue;
                    }
                    if (!pairs.contains(100 * v + w)) {
                        pairs.add(100 * v + w);
                        made.vertices.add(pairs.size() - 1);
                    }
                    made.addEdge(p, l, pairs.indexOf(100 * v + w));
                }
            }
            return settle(d, made);
        }

        int join(int d, int x, int y) {
            if (!has(d) || !has(x) || !has(y)) {
                return NONE;
            }
            Picture made = new Picture(letters);
            made.addCopy(graphs.get(x));
            made.addCopy(graphs.get(y));
            return settle(d, made);
        }

        private int settle(int d, Picture made) {
            if (made.size() > 64) {
                return FULL;
            }
            made.fold();
            made.trim();
            graphs.set(d, made.numbered());
            return made.size();
        }

        boolean member(int s) {
            return trace(s) == 0;
        }

        int trace(int s) {
            return has(s) ? graphs.get(s).walk(typed, 0) : NONE;
        }

        int written(int s, int i) {
            if (!member(s)) {
                return 0;
            }
            List<Integer> items = graphs.get(s).write(typed);
            return i >= 0 && i < items.size() ? items.get(i) : 0;
        }

        int length(int s, int k) {
            return has(s) && k >= 0 && k < graphs.get(s).basis().size() ? graphs.get(s).basis().get(k).size() : NONE;
        }

        int basis(int s, int k, int i) {
            return i >= 0 && i < length(s, k) ? graphs.get(s).basis().get(k).get(i) : 0;
        }

        int target(int s, int v, int x) {
            return has(s) && x != 0 ? graphs.get(s).lead(v, x) : NONE;
        }

        int figure(int s, int what) {
            if (!has(s) || what < 0 || what > 3) {
                return NONE;
            }
            Picture graph = graphs.get(s);
            if (what == 2) {
                return graph.basis().size();
            }
            if (what == 3) {
                for (int v : graph.vertices) {
                    if (graph.degree(v) < 2 * letters) {
                        return 0;
                    }
                }
            }
            return what == 1 ? graph.edges.size() : graph.size();
        }

        boolean contains(int x, int y) {
            if (!has(x) || !has(y)) {
                return false;
            }
            for (List<Integer> element : graphs.get(y).basis()) {
                if (graphs.get(x).walk(element, 0) != 0) {
                    return false;
                }
            }
            return true;
        }

        boolean normal(int s) {
            if (!has(s)) {
                return false;
            }
            for (List<Integer> element : graphs.get(s).basis()) {
                for (int x = -letters; x <= letters; x++) {
                    if (x != 0 && graphs.get(s).walk(together(together(List.of(-x), element), List.of(x)), 0) != 0) {
                        return false;
                    }
                }
            }
            return true;
        }
    }

    /** A graph as a set of edges. */
    private static final class Picture {
        private final int letters;
        private final Set<Integer> vertices = new HashSet<>(Set.of(0));
        private Set<Edge> edges = new HashSet<>();
        private int base = 0;
        private final Map<Integer, List<Integer>> tree = new HashMap<>();
        private final Set<Edge> treeEdges = new HashSet<>();
        private List<List<Integer>> elements = new ArrayList<>();
        private final Map<Edge, Integer> elementOf = new HashMap<>();

        Picture(int letters) {
            this.letters = letters;
        }

        int size() {
            return vertices.size();
        }

        void addEdge(int from, int x, int to) {
            edges.add(x > 0 ? new Edge(from, x, to) : new Edge(to, -x, from));
        }

        void addCopy(Picture other) {
            int shift = size() - 1;
            for (int v : other.vertices) {
                vertices.add(v == 0 ? 0 : v + shift);
            }
            for (Edge e : other.edges) {
                addEdge(e.from == 0 ? 0 : e.from + shift, e.letter, e.to == 0 ? 0 : e.to + shift);
            }
        }

        int addRow(List<Integer> word) {
            int v = 0;
            for (int x : word) {
                int next = size();
                vertices.add(next);
                addEdge(v, x, next);
                v = next;
            }
            return v;
        }

        void addRing(List<Integer> word) {
            if (!word.isEmpty()) {
                int last = addRow(word.subList(0, word.size() - 1));
                addEdge(last, word.get(word.size() - 1), 0);
            }
        }

        void fold() {
            while (foldOnce()) {
                continue;
            }
        }

        private boolean foldOnce() {
            for (Edge e : edges) {
                for (Edge f : edges) {
                    if (e.letter == f.letter && e.from == f.from && e.to != f.to) {
                        makeOne(e.to, f.to);
                        return true;
                    }
                    if (e.letter == f.letter && e.to == f.to && e.from != f.from) {
                        makeOne(e.from, f.from);
                        return true;
                    }
                }
            }
            return false;
        }

        private void makeOne(int v, int w) {
            Set<Edge> renamed = new HashSet<>();
            for (Edge e : edges) {
                renamed.add(new Edge(e.from == w ? v : e.from, e.letter, e.to == w ? v : e.to));
            }
            edges = renamed;
            vertices.remove(w);
            base = base == w ? v : base;
        }

        void trim() {
            for (boolean again = true; again;) {
                again = false;
                for (int v : List.copyOf(vertices)) {
                    if (v != base && degree(v) == 1) {
                        vertices.remove(v);
                        edges.removeIf(e -> e.from == v || e.to == v);
                        again = true;
                    }
                }
            }
        }

        int degree(int v) {
            int ways = 0;
            for (Edge e : edges) {
                ways += (e.from == v ? 1 : 0) + (e.to == v ? 1 : 0);
            }
            return ways;
        }

        int lead(int v, int x) {
            for (Edge e : edges) {
                if (e.letter == x && e.from == v) {
                    return e.to;
                }
                if (e.letter == -x && e.to == v) {
                    return e.from;
                }
            }
            return NONE;
        }

        int walk(List<Integer> word, int start) {
            int v = start;
            for (int i = 0; i < word.size() && v != NONE; i++) {
                v = lead(v, word.get(i));
            }
            return v;
        }

        Picture numbered() {
            Map<Integer, Integer> numbers = new HashMap<>(Map.of(base, 0));
            List<Integer> order = new ArrayList<>(List.of(base));
            Picture made = new Picture(letters);
            made.tree.put(0, List.of());
            for (int n = 0; n < order.size(); n++) {
                for (int l = 2; l < 2 * letters + 2; l++) {
                    int x = l % 2 == 0 ? l / 2 : -(l / 2);
                    int t = lead(order.get(n), x);
                    if (t != NONE && !numbers.containsKey(t)) {
                        int number = numbers.size();
                        numbers.put(t, number);
                        order.add(t);
                        made.vertices.add(number);
                        made.tree.put(number, together(made.tree.get(n), List.of(x)));
                        made.treeEdges.add(x > 0 ? new Edge(n, x, number) : new Edge(number, -x, n));
                    }
                }
            }
            if (numbers.size() != vertices.size()) {
                throw new IllegalStateException("the model is wrong");
            }
            for (Edge e : edges) {
                made.addEdge(numbers.get(e.from), e.letter, numbers.get(e.to));
            }
            made.findBasis();
            return made;
        }

        private void findBasis() {
            for (int v = 0; v < size(); v++) {
                for (int x = 1; x <= letters; x++) {
                    int t = lead(v, x);
                    if (t != NONE && !treeEdges.contains(new Edge(v, x, t))) {
                        elementOf.put(new Edge(v, x, t), elements.size());
                        elements.add(together(together(tree.get(v), List.of(x)), inverse(tree.get(t))));
                    }
                }
            }
        }

        List<List<Integer>> basis() {
            return elements;
        }

        List<Integer> write(List<Integer> word) {
            List<Integer> items = new ArrayList<>();
            List<Integer> product = List.of();
            int v = 0;
            for (int x : word) {
                int t = lead(v, x);
                Integer k = elementOf.get(x > 0 ? new Edge(v, x, t) : new Edge(t, -x, v));
                if (k != null) {
                    items = together(items, List.of(x > 0 ? k + 1 : -(k + 1)));
                    product = together(product, x > 0 ? elements.get(k) : inverse(elements.get(k)));
                }
                v = t;
            }
            if (!product.equals(word)) {
                throw new IllegalStateException("the model is wrong");
            }
            return items;
        }
    }

    private static List<Integer> together(List<Integer> a, List<Integer> b) {
        List<Integer> word = new ArrayList<>(a);
        for (int x : b) {
            if (!word.isEmpty() && word.get(word.size() - 1) == -x) {
                word.remove(word.size() - 1);
            } else {
                word.add(x);
            }
        }
        return word;
    }

    private static List<Integer> inverse(List<Integer> word) {
        List<Integer> turned = new ArrayList<>();
        for (int i = word.size() - 1; i >= 0; i--) {
            turned.add(-word.get(i));
        }
        return turned;
    }
}
