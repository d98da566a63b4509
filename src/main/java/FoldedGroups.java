import java.util.Arrays;

/** Subgroups of a free group as folded graphs. The promises that comments name are those of DOC.md. */
public final class FoldedGroups {
    public static final int NONE = -1;
    public static final int FULL = -2;

    private static final int MOST_LETTERS = 3;
    private static final int MOST_TYPED = 24;
    private static final int SUBGROUPS = 4;
    private static final int MOST_VERTICES = 64;

    /** Ways from a vertex, whatever N is: those by letters beyond N lead nowhere. */
    private static final int WAYS = 2 * MOST_LETTERS;

    /** Two graphs that share their base have 65 vertices between them; a ring or a row brings fewer edges. */
    private static final int MOST_EDGES = (MOST_VERTICES + 1) * MOST_LETTERS;

    private final int letters;
    private final Word typed;
    private final Graph[] graphs;
    private final Draft draft;

    public FoldedGroups(int letters) {
        this.letters = Math.max(1, Math.min(MOST_LETTERS, letters));
        this.typed = new Word();
        this.graphs = new Graph[SUBGROUPS];
        for (int s = 0; s < SUBGROUPS; s++) {
            this.graphs[s] = new Graph();
        }
        this.draft = new Draft();
    }

    public int letter(int x) {
        return isLetter(x) ? typed.append(x) : NONE;
    }

    public int clear() {
        int had = typed.size;
        typed.size = 0;
        return had;
    }

    public int invert() {
        typed.turnRound();
        return typed.size;
    }

    public int at(int i) {
        return i >= 0 && i < typed.size ? typed.row[i] : 0;
    }

    public int take(int s, int k) {
        int size = length(s, k);
        if (size == NONE) {
            return NONE;
        }
        if (size > MOST_TYPED) {
            return FULL;
        }
        Graph graph = graphs[s];
        int slot = graph.slotOfElement(k);
        for (int i = 0; i < size; i++) {
            typed.row[i] = graph.elementLetter(slot, i);
        }
        typed.size = size;
        return size;
    }

    public int generate(int s) {
        if (!isSubgroup(s)) {
            return NONE;
        }
        int added = Math.max(0, typed.size - 1);
        if (graphs[s].size + added > MOST_VERTICES) {
            return FULL;
        }
        draft.begin();
        draft.addCopy(graphs[s]);
        draft.addRing(typed);
        draft.fold();
        return draft.numberInto(graphs[s]);
    }

    public int drop(int s) {
        if (!isSubgroup(s)) {
            return NONE;
        }
        int had = graphs[s].size;
        graphs[s].reset();
        return had;
    }

    public int conjugate(int d, int s) {
        if (!isSubgroup(d) || !isSubgroup(s)) {
            return NONE;
        }
        if (graphs[s].size + typed.size > MOST_VERTICES) {
            return FULL;
        }
        draft.begin();
        draft.addCopy(graphs[s]);
        draft.moveBaseAlong(typed);
        draft.fold();
        draft.trim();
        return draft.numberInto(graphs[d]);
    }

    public int meet(int d, int x, int y) {
        if (!isSubgroup(d) || !isSubgroup(x) || !isSubgroup(y)) {
            return NONE;
        }
        draft.begin();
        if (!draft.addPairs(graphs[x], graphs[y])) {
            return FULL;
        }
        draft.trim();
        return draft.numberInto(graphs[d]);
    }

    public int join(int d, int x, int y) {
        if (!isSubgroup(d) || !isSubgroup(x) || !isSubgroup(y)) {
            return NONE;
        }
        if (graphs[x].size + graphs[y].size - 1 > MOST_VERTICES) {
            return FULL;
        }
        draft.begin();
        draft.addCopy(graphs[x]);
        draft.addCopy(graphs[y]);
        draft.fold();
        return draft.numberInto(graphs[d]);
    }

    public boolean member(int s) {
        return trace(s) == 0;
    }

    public int trace(int s) {
        if (!isSubgroup(s)) {
            return NONE;
        }
        int v = 0;
        for (int i = 0; i < typed.size && v != NONE; i++) {
            v = graphs[s].way(v, codeOf(typed.row[i]));
        }
        return v;
    }

    public int written(int s, int i) {
        if (!member(s)) {
            return 0;
        }
        Graph graph = graphs[s];
        int v = 0;
        int passed = 0;
        for (int j = 0; j < typed.size; j++) {
            int code = codeOf(typed.row[j]);
            int item = graph.items[v * WAYS + code];
            if (item != 0) {
                if (passed == i) {
                    return item;
                }
                passed++;
            }
            v = graph.way(v, code);
        }
        return 0;
    }

    public int length(int s, int k) {
        if (!isSubgroup(s)) {
            return NONE;
        }
        int slot = graphs[s].slotOfElement(k);
        return slot == NONE ? NONE : graphs[s].elementSize(slot);
    }

    public int basis(int s, int k, int i) {
        if (i < 0 || i >= length(s, k)) {
            return 0;
        }
        return graphs[s].elementLetter(graphs[s].slotOfElement(k), i);
    }

    public int target(int s, int v, int x) {
        if (!isSubgroup(s) || !isLetter(x) || v < 0 || v >= graphs[s].size) {
            return NONE;
        }
        return graphs[s].way(v, codeOf(x));
    }

    public int figure(int s, int what) {
        if (!isSubgroup(s)) {
            return NONE;
        }
        Graph graph = graphs[s];
        switch (what) {
            case 0:
                return graph.size;
            case 1:
                return graph.edges;
            case 2:
                return graph.rank;
            case 3:
                return isComplete(graph) ? graph.size : 0;
            default:
                return NONE;
        }
    }

    public boolean contains(int x, int y) {
        return isSubgroup(x) && isSubgroup(y) && graphs[y].liesUpon(graphs[x], 0);
    }

    public boolean normal(int s) {
        if (!isSubgroup(s)) {
            return false;
        }
        Graph graph = graphs[s];
        if (graph.edges == 0) {
            return true;
        }
        // A normal subgroup with a finite basis has the empty word alone or an index.
        if (!isComplete(graph)) {
            return false;
        }
        // The words that move s to itself are a subgroup, so that the letters speak for all words.
        for (int x = 1; x <= letters; x++) {
            if (!graph.liesUpon(graph, graph.way(0, codeOf(x)))) {
                return false;
            }
        }
        return true;
    }

    private boolean isSubgroup(int s) {
        return s >= 0 && s < SUBGROUPS;
    }

    private boolean isLetter(int x) {
        return x != 0 && x >= -letters && x <= letters;
    }

    /** Each edge is one way by a letter and one by an inverse, so that counting edges is enough. */
    private boolean isComplete(Graph graph) {
        return graph.edges == graph.size * letters;
    }

    /** Codes 0, 1, 2, 3, .. are the letters 1, -1, 2, -2, .., the order of the numbering; code ^ 1 is the inverse. */
    private static int codeOf(int x) {
        return x > 0 ? 2 * x - 2 : -2 * x - 1;
    }

    private static int letterOf(int code) {
        int x = (code >> 1) + 1;
        return (code & 1) == 0 ? x : -x;
    }

    /** The typed word. */
    private static final class Word {
        private final int[] row = new int[MOST_TYPED];
        private int size = 0;

        private int append(int x) {
            if (size > 0 && row[size - 1] == -x) {
                size--;
                return size;
            }
            if (size >= MOST_TYPED) {
                return FULL;
            }
            row[size] = x;
            size++;
            return size;
        }

        private void turnRound() {
            for (int i = 0, j = size - 1; i <= j; i++, j--) {
                int x = row[i];
                row[i] = -row[j];
                row[j] = -x;
            }
        }
    }

    /** The numbered graph of a subgroup, with its tree and its basis. */
    private static final class Graph {
        private int size;
        private int edges;
        private int rank;
        private final int[] ways = new int[MOST_VERTICES * WAYS];

        /** Beside each way: k + 1 when it is the edge of element k, -(k + 1) against its direction, 0 in the tree. */
        private final int[] items = new int[MOST_VERTICES * WAYS];

        /** Of the tree's way to a vertex: the vertex before it, the code of its last letter, its length. */
        private final int[] parents = new int[MOST_VERTICES];
        private final int[] codes = new int[MOST_VERTICES];
        private final int[] depths = new int[MOST_VERTICES];

        /** Where each vertex goes when this graph is laid upon another. */
        private final int[] images = new int[MOST_VERTICES];

        private Graph() {
            reset();
        }

        private void reset() {
            size = 1;
            edges = 0;
            rank = 0;
            parents[0] = NONE;
            codes[0] = NONE;
            depths[0] = 0;
            Arrays.fill(ways, NONE);
            Arrays.fill(items, 0);
        }

        private int way(int v, int code) {
            return ways[v * WAYS + code];
        }

        private void growTree(int parent, int code) {
            if (size < MOST_VERTICES) {
                parents[size] = parent;
                codes[size] = code;
                depths[size] = depths[parent] + 1;
                size++;
            }
        }

        private void findBasis() {
            for (int v = 0; v < size; v++) {
                for (int code = 0; code < WAYS; code += 2) {
                    int t = way(v, code);
                    if (t == NONE) {
                        continue;
                    }
                    edges++;
                    // At most one way by a letter comes to a vertex, so the last letter tells the tree's way.
                    if (codes[t] != code && codes[v] != (code ^ 1)) {
                        rank++;
                        items[v * WAYS + code] = rank;
                        items[t * WAYS + (code ^ 1)] = -rank;
                    }
                }
            }
        }

        /** Where element k's own edge begins, as a place in the rows of ways and items. */
        private int slotOfElement(int k) {
            if (k < 0 || k >= rank) {
                return NONE;
            }
            for (int slot = 0; slot < size * WAYS; slot++) {
                if (items[slot] == k + 1) {
                    return slot;
                }
            }
            return NONE;
        }

        private int elementSize(int slot) {
            return depths[slot / WAYS] + 1 + depths[ways[slot]];
        }

        private int elementLetter(int slot, int i) {
            int v = slot / WAYS;
            int before = depths[v];
            if (i < before) {
                return letterOf(codes[climb(v, before - 1 - i)]);
            }
            if (i == before) {
                return letterOf(slot % WAYS);
            }
            return -letterOf(codes[climb(ways[slot], i - before - 1)]);
        }

        private int climb(int v, int steps) {
            int above = v;
            for (int n = 0; n < steps; n++) {
                above = parents[above];
            }
            return above;
        }

        /** Whether every word that leads here from the base back to it leads in another graph from start to start. */
        private boolean liesUpon(Graph other, int start) {
            images[0] = start;
            for (int v = 1; v < size; v++) {
                images[v] = other.way(images[parents[v]], codes[v]);
                if (images[v] == NONE) {
                    return false;
                }
            }
            for (int v = 0; v < size; v++) {
                for (int code = 0; code < WAYS; code += 2) {
                    int t = way(v, code);
                    if (t != NONE && other.way(images[v], code) != images[t]) {
                        return false;
                    }
                }
            }
            return true;
        }
    }

    /** A graph in the making: put together of parts, folded, trimmed, and then numbered into a subgroup's graph. */
    private static final class Draft {
        private int size;
        private int base;
        private int edges;
        private final int[] froms = new int[MOST_EDGES];
        private final int[] codes = new int[MOST_EDGES];
        private final int[] tos = new int[MOST_EDGES];

        /** The vertex that stands for each vertex, when several have become one. */
        private final int[] names = new int[MOST_VERTICES];
        private final int[] ways = new int[MOST_VERTICES * WAYS];

        /** The vertices of x and of y that a vertex of a meeting is the pair of. */
        private final int[] lefts = new int[MOST_VERTICES];
        private final int[] rights = new int[MOST_VERTICES];

        private final int[] numbers = new int[MOST_VERTICES];
        private final int[] order = new int[MOST_VERTICES];

        /** The base alone, as vertex 0. */
        private void begin() {
            size = 1;
            base = 0;
            edges = 0;
            Arrays.fill(ways, NONE);
        }

        private void addEdge(int from, int code, int to) {
            if (edges < MOST_EDGES) {
                froms[edges] = from;
                codes[edges] = code;
                tos[edges] = to;
                edges++;
            }
        }

        private void addCopy(Graph graph) {
            int shift = size - 1;
            for (int v = 0; v < graph.size; v++) {
                for (int code = 0; code < WAYS; code += 2) {
                    int t = graph.way(v, code);
                    if (t != NONE) {
                        addEdge(v == 0 ? 0 : v + shift, code, t == 0 ? 0 : t + shift);
                    }
                }
            }
            size += graph.size - 1;
        }

        private void addRing(Word word) {
            if (word.size > 0) {
                int end = addRow(word, word.size - 1);
                addEdge(end, codeOf(word.row[word.size - 1]), 0);
            }
        }

        private void moveBaseAlong(Word word) {
            base = addRow(word, word.size);
        }

        /** Puts a row that reads the word's first letters to the base; answers its end. */
        private int addRow(Word word, int count) {
            int end = 0;
            for (int i = 0; i < count; i++) {
                addEdge(end, codeOf(word.row[i]), size);
                end = size;
                size++;
            }
            return end;
        }

        private void fold() {
            for (int v = 0; v < size; v++) {
                names[v] = v;
            }
            boolean changed = true;
            // Every pass but the last makes two vertices one, so there are at most as many as vertices.
            for (int pass = 0; pass < MOST_VERTICES && changed; pass++) {
                changed = false;
                Arrays.fill(ways, NONE);
                for (int e = 0; e < edges; e++) {
                    boolean along = layWay(froms[e], codes[e], tos[e]);
                    boolean against = layWay(tos[e], codes[e] ^ 1, froms[e]);
                    changed = changed || along || against;
                }
            }
            base = names[base];
        }

        /** Whether another way was there, so that two vertices had to become one. */
        private boolean layWay(int from, int code, int to) {
            int slot = names[from] * WAYS + code;
            if (ways[slot] == NONE) {
                ways[slot] = names[to];
                return false;
            }
            int there = names[ways[slot]];
            if (there == names[to]) {
                return false;
            }
            unite(there, names[to]);
            return true;
        }

        private void unite(int a, int b) {
            for (int v = 0; v < size; v++) {
                if (names[v] == b) {
                    names[v] = a;
                }
            }
        }

        /** Takes the pairs that can be come to; false when they are too many. */
        private boolean addPairs(Graph x, Graph y) {
            lefts[0] = 0;
            rights[0] = 0;
            for (int p = 0; p < MOST_VERTICES && p < size; p++) {
                for (int code = 0; code < WAYS; code++) {
                    int left = x.way(lefts[p], code);
                    int right = y.way(rights[p], code);
                    if (left == NONE || right == NONE) {
                        continue;
                    }
                    int pair = findOrAddPair(left, right);
                    if (pair == NONE) {
                        return false;
                    }
                    ways[p * WAYS + code] = pair;
                }
            }
            return true;
        }

        private int findOrAddPair(int left, int right) {
            for (int p = 0; p < size; p++) {
                if (lefts[p] == left && rights[p] == right) {
                    return p;
                }
            }
            if (size >= MOST_VERTICES) {
                return NONE;
            }
            lefts[size] = left;
            rights[size] = right;
            size++;
            return size - 1;
        }

        private void trim() {
            for (int v = 0; v < size; v++) {
                trimFrom(v);
            }
        }

        /** Only the neighbour of a vertex that was taken away can come to have just one way by that. */
        private void trimFrom(int start) {
            int v = start;
            for (int n = 0; n < size && v != base; n++) {
                int code = onlyWay(v);
                if (code == NONE) {
                    return;
                }
                int next = ways[v * WAYS + code];
                ways[v * WAYS + code] = NONE;
                ways[next * WAYS + (code ^ 1)] = NONE;
                v = next;
            }
        }

        private int onlyWay(int v) {
            int only = NONE;
            for (int code = 0; code < WAYS; code++) {
                if (ways[v * WAYS + code] != NONE) {
                    if (only != NONE) {
                        return NONE;
                    }
                    only = code;
                }
            }
            return only;
        }

        /** Gives what can be come to from the base to a graph; answers its number of vertices. */
        private int numberInto(Graph graph) {
            graph.reset();
            Arrays.fill(numbers, NONE);
            numbers[base] = 0;
            order[0] = base;
            for (int v = 0; v < MOST_VERTICES && v < graph.size; v++) {
                for (int code = 0; code < WAYS; code++) {
                    int t = ways[order[v] * WAYS + code];
                    if (t == NONE) {
                        continue;
                    }
                    if (numbers[t] == NONE) {
                        numbers[t] = graph.size;
                        order[graph.size] = t;
                        graph.growTree(v, code);
                    }
                    graph.ways[v * WAYS + code] = numbers[t];
                }
            }
            graph.findBasis();
            return graph.size;
        }
    }
}
