/** The boundary cases that "What it is" and "Terms" of DOC.md name; FULL for 65 vertices is in SubgroupBoundaries. */
public final class TermsBoundaries {
    private static final int NONE = Run.NONE;
    private static final int FULL = Run.FULL;
    private static final int MIN = Run.MIN;
    private static final int MAX = Run.MAX;

    public static void main(String[] args) {
        mostCalls();
        mostCallsOfTheDearest();
        anyArguments();
        for (int letters = 1; letters <= 3; letters++) {
            lettersAndInverses(letters);
            lettersOfGraphs(letters);
            emptyWordAlone(letters);
        }
        noneBesideItsInverse();
        mostTyped();
        putTogether();
        inverse();
        emptyWordInAll();
        inversesAndProducts();
        oneWayByEachLetter();
        baseWithOneWay();
        comeToFromTheBase();
        oneGraphForEach();
        numbered();
        numberedByVertex();
        tree();
        treeAndRings();
        basisOrder();
        writtenInOneWay();
        foldAsLongAs();
        foldSeveralEdges();
        trimAsLongAs();
        Run.end();
    }

    private static void mostCalls() {
        Run run = new Run(2, "An object is used for at most 512 calls after it has been made");
        run.type(1, 2);
        run.due(2, "generate", 0);
        while (run.made() < 506) {
            run.due(2, "invert");
            run.due(2, "conjugate", 0, 0);
            run.due(2, "meet", 0, 0, 0);
            run.due(2, "join", 0, 0, 0);
        }
        while (run.made() < 509) {
            run.due(1, "member", 0);
        }
        run.due(2, "take", 0, 0);
        run.due(2, "generate", 3);
        run.due(1, "contains", 0, 3);
        for (int n = 0; n < 1000; n++) {
            run.free("letter", 1);
            run.free("generate", n % 4);
            run.free("join", n % 4, 0, 1);
            run.free("normal", n % 4);
            run.free("written", n % 4, 0);
        }
    }

    private static void mostCallsOfTheDearest() {
        Run run = new Run(3, "An object is used for at most 512 calls after it has been made");
        run.counting(0, 1, 8);
        run.counting(1, 2, 8);
        run.due(64, "meet", 0, 0, 1);
        run.due(8, "drop", 1);
        run.generate(1, 1, 1);
        while (run.made() < 509) {
            run.due(8, "join", 2, 0, 1);
        }
        run.due(8, "join", 2, 1, 0);
        run.due(64, "meet", 3, 0, 0);
        run.due(64, "figure", 3, 3);
        for (int n = 0; n < 1000; n++) {
            run.free("join", 2, 0, 1);
            run.free("meet", 2, 0, 3);
            run.free("conjugate", 0, 0);
            run.free("take", 0, n % 130);
        }
    }

    /** LANGUAGE.md, rule 7: no call throws by itself or fails to end, for any arguments in any state. */
    private static void anyArguments() {
        int[] values = {
            MIN, MIN + 1, -65, -25, -4, -3, -2, -1, 0, 1, 2, 3, 4, 23, 24, 25, 63, 64, 65, 129, MAX - 1, MAX};
        for (int state = 0; state < 3; state++) {
            for (int a : values) {
                for (int b : values) {
                    Run run = stateOf(state);
                    for (int c : values) {
                        run.free("meet", a, b, c);
                        run.free("join", a, b, c);
                        run.free("basis", a, b, c);
                        run.free("target", a, b, c);
                    }
                    run.free("take", a, b);
                    run.free("conjugate", a, b);
                    run.free("written", a, b);
                    run.free("length", a, b);
                    run.free("figure", a, b);
                    run.free("contains", a, b);
                }
                oneArgument(stateOf(state), a);
            }
        }
    }

    private static Run stateOf(int state) {
        Run run = new Run(1 + state, "No call may ever throw by itself");
        if (state == 1) {
            run.generate(24, 0, Run.power(1, 24));
            run.generate(2, 3, 1, 2);
        } else if (state == 2) {
            run.fill(0, 64);
            run.type(Run.times(12, 2, 3));
            run.due(24, "generate", 3);
        }
        return run;
    }

    private static void oneArgument(Run run, int a) {
        for (String name : new String[] {"at", "member", "trace", "normal", "generate", "drop", "letter"}) {
            run.free(name, a);
        }
    }

    private static void lettersAndInverses(int letters) {
        for (int x = 1; x <= letters; x++) {
            Run run = new Run(letters, "LETTERS are 1 .. N and, as their INVERSES, -1 .. -N");
            run.types(1, "letter", x);
            run.typedIs(x);
            run.types(0, "letter", -x);
            run.types(1, "letter", -x);
            run.typedIs(-x);
        }
        Run run = new Run(letters, "LETTERS are 1 .. N and, as their INVERSES, -1 .. -N");
        for (int before = 0; before <= 1; before++) {
            for (int no : new int[] {0, letters + 1, -letters - 1, 4, -4, MIN, MIN + 1, MAX}) {
                run.stays(NONE, "letter", no);
            }
            run.due(before + 1, "letter", letters);
        }
    }

    private static void lettersOfGraphs(int letters) {
        Run run = new Run(letters, "edges .. each with one of the letters 1 .. N");
        for (int x = 1; x <= letters; x++) {
            run.generate(1, 0, x);
        }
        run.figuresAre(0, 1, letters, letters, 1);
        for (int x = 1; x <= letters; x++) {
            run.stays(0, "target", 0, 0, x);
            run.stays(0, "target", 0, 0, -x);
        }
        for (int no : new int[] {0, letters + 1, -letters - 1, 4, -4, MIN, MIN + 1, MAX}) {
            run.stays(NONE, "target", 0, 0, no);
        }
    }

    private static void emptyWordAlone(int letters) {
        for (int s = 0; s < 4; s++) {
            Run run = new Run(letters, "There are four subgroups, 0 .. 3, at first with the empty word alone.");
            run.figuresAre(s, 1, 0, 0, 0);
            run.due(1, "member", s);
            run.due(0, "trace", s);
            run.writtenIs(s);
            run.due(NONE, "length", s, 0);
            run.due(0, "basis", s, 0, 0);
            run.stays(NONE, "take", s, 0);
            run.due(1, "normal", s);
            for (int t = 0; t < 4; t++) {
                run.due(1, "contains", s, t);
            }
            for (int x = -letters; x <= letters; x++) {
                run.due(NONE, "target", s, 0, x);
            }
            run.stays(1, "drop", s);
            run.due(1, "letter", letters);
            run.due(0, "member", s);
            run.due(NONE, "trace", s);
            run.changes(s, 1, "generate", s);
            run.due(1, "member", s);
            for (int t = 0; t < 4; t++) {
                run.due(t == s ? 1 : 0, "member", t);
            }
        }
    }

    private static void noneBesideItsInverse() {
        Run run = new Run(3, "A WORD is a row of letters, none beside its own inverse");
        run.type(1, 2, 3);
        run.types(2, "letter", -3);
        run.typedIs(1, 2);
        run.types(1, "letter", -2);
        run.types(0, "letter", -1);
        run.typedIs();
        run.types(1, "letter", -1);
        run.types(0, "letter", 1);
        run.type(1, 1);
        run.typedIs(1, 1);
        run.type(1, 2, -1, -2);
        run.typedIs(1, 2, -1, -2);
    }

    private static void mostTyped() {
        Run run = new Run(3, "there is one that is TYPED, of at most 24 letters");
        run.type(Run.times(11, 1, 2));
        run.types(23, "letter", 1);
        run.types(24, "letter", 2);
        for (int x : new int[] {1, -1, 2, 3, -3}) {
            run.stays(FULL, "letter", x);
        }
        run.typedIs(Run.times(12, 1, 2));
        run.types(24, "invert");
        run.typedIs(Run.times(12, -2, -1));
        run.stays(FULL, "letter", -2);
        run.types(23, "letter", 1);
        run.types(24, "letter", 3);
        run.due(24, "clear");
    }

    private static void putTogether() {
        Run run = new Run(2, "as long as a letter and its inverse stand beside one another, both are taken away");
        run.generate(3, 0, 1, 1, 2);
        run.type(1);
        run.changes(1, 3, "conjugate", 1, 0);
        run.elementIs(1, 0, 1, 2, 1);
        run.type(1, 1);
        run.changes(1, 3, "conjugate", 1, 0);
        run.elementIs(1, 0, 2, 1, 1);
        run.type(1, 1, 2);
        run.changes(1, 3, "conjugate", 1, 0);
        run.elementIs(1, 0, 1, 1, 2);
        run.generate(4, 2, -1, -1, -1, 2, 1, 1, 1);
        run.type(-1, -1);
        run.changes(1, 2, "conjugate", 1, 2);
        run.elementIs(1, 0, -1, 2, 1);
        run.type(-1, -1, -1);
        run.changes(1, 1, "conjugate", 1, 2);
        run.elementIs(1, 0, 2);
    }

    private static void inverse() {
        for (int size = 0; size <= 24; size++) {
            Run run = new Run(2, "The INVERSE of a word has the inverses of its letters, in the other order.");
            run.type(Run.ring(size, 1, -2));
            run.types(size, "invert");
            int[] turned = Run.ring(size, 1, -2);
            for (int i = 0; i < size; i++) {
                run.due(-turned[size - 1 - i], "at", i);
            }
            run.due(0, "at", size);
        }
    }

    private static void emptyWordInAll() {
        Run run = new Run(2, "A SUBGROUP is a set of words that has the empty one");
        run.generate(2, 1, 1, 2);
        run.generate(24, 2, Run.power(1, 24));
        run.generate(1, 3, 1);
        run.generate(1, 3, 2);
        run.due(1, "clear");
        for (int s = 0; s < 4; s++) {
            run.due(1, "member", s);
            run.due(0, "trace", s);
            run.writtenIs(s);
            run.due(1, "contains", s, 0);
        }
    }

    private static void inversesAndProducts() {
        Run run = new Run(2, "and with any words their inverses and what comes of putting them together");
        run.generate(3, 0, 1, 2, 1);
        run.generate(5, 0, 2, 1, 2);
        int[][] words = {
            {1, 2, 1}, {-1, -2, -1}, {1, 2, 1, 1, 2, 1}, {1, 2, 1, 2, 1, 2}, {1, 2, 1, -2, -1, -2}, {-2, -1, 2, 1}};
        int[] in = {1, 1, 1, 1, 1, 0};
        for (int n = 0; n < words.length; n++) {
            run.type(words[n]);
            run.due(in[n], "member", 0);
            run.due(words[n].length, "invert");
            run.due(in[n], "member", 0);
        }
    }

    private static void oneWayByEachLetter() {
        Run run = new Run(2, "From each vertex there is at most one way by each letter.");
        run.generate(3, 0, 1, 1, 2);
        // both rings begin with 1 and end with 2, so that their ways fold from both sides
        run.generate(3, 0, 1, 2, 2);
        run.targetsAre(0, 0, 1, NONE, NONE, 2);
        run.targetsAre(0, 1, 2, 0, 2, NONE);
        run.targetsAre(0, 2, NONE, 1, 0, 1);
        run.figuresAre(0, 3, 4, 2, 0);
    }

    private static void baseWithOneWay() {
        Run run = new Run(2, "every one but the base has two ways or more");
        run.generate(1, 0, 2);
        run.type(1);
        run.changes(1, 2, "conjugate", 1, 0);
        run.targetsAre(1, 0, NONE, 1, NONE, NONE);
        run.targetsAre(1, 1, 0, NONE, 1, 1);
        run.figuresAre(1, 2, 2, 1, 0);
        run.changes(2, 2, "meet", 2, 1, 1);
        run.figuresAre(2, 2, 2, 1, 0);
        run.changes(3, 2, "join", 3, 1, 1);
        run.figuresAre(3, 2, 2, 1, 0);
        run.due(1, "invert");
        run.changes(1, 1, "conjugate", 1, 1);
        run.figuresAre(1, 1, 1, 1, 0);
    }

    private static void comeToFromTheBase() {
        Run run = new Run(2, "Every vertex can be come to from the base");
        run.generate(2, 0, 1, 1);
        run.generate(2, 1, 1, 1);
        // of the four pairs two can be come to
        run.changes(2, 2, "meet", 2, 0, 1);
        run.targetsAre(2, 0, 1, 1, NONE, NONE);
        run.targetsAre(2, 1, 0, 0, NONE, NONE);
        run.targetsAre(2, 2, NONE, NONE, NONE, NONE);
        run.figuresAre(2, 2, 2, 1, 0);
    }

    private static void oneGraphForEach() {
        Run run = new Run(2, "There is just one such graph for each subgroup that is made here.");
        run.generate(2, 0, 1, 1);
        run.generate(3, 0, 2, 2);
        run.generate(3, 0, 1, 2, -1);
        run.generate(2, 1, 1, -2, -1);
        run.generate(3, 1, -2, -2);
        run.generate(3, 1, 1, 2, -1, 2, 2, -1, -1);
        run.type(1);
        run.due(3, "conjugate", 2, 0);
        run.due(1, "invert");
        run.due(3, "conjugate", 2, 2);
        run.due(3, "join", 3, 0, 1);
        run.due(3, "meet", 3, 3, 2);
        for (int s = 0; s < 4; s++) {
            run.figuresAre(s, 3, 5, 3, 0);
            run.targetsAre(s, 0, 1, 1, 2, 2);
            run.targetsAre(s, 1, 0, 0, 1, 1);
            run.targetsAre(s, 2, NONE, NONE, 0, 0);
            run.elementIs(s, 0, 1, 1);
            run.elementIs(s, 1, 1, 2, -1);
            run.elementIs(s, 2, 2, 2);
        }
    }

    private static void numbered() {
        Run run = new Run(3, "by the letters 1, -1, 2, -2, .., N, -N, in this order, .. get the next ones");
        // the ring with the last letters is laid first: the order does not come from when a ring was laid
        run.generate(3, 0, 3, 1, 3);
        run.generate(5, 0, 2, 3, 2);
        run.generate(7, 0, 1, 2, 1);
        run.targetsAre(0, 0, 1, 2, 3, 4, 5, 6);
        run.targetsAre(0, 1, NONE, 0, 2, NONE, NONE, NONE);
        run.targetsAre(0, 3, NONE, NONE, NONE, 0, 4, NONE);
        run.targetsAre(0, 5, 6, NONE, NONE, NONE, NONE, 0);
        run.figuresAre(0, 7, 9, 3, 0);
    }

    private static void numberedByVertex() {
        Run run = new Run(1, "the base is 0; then for each vertex, by number");
        run.generate(6, 0, Run.power(1, 6));
        int[][] ways = {{1, 2}, {3, 0}, {0, 4}, {5, 1}, {2, 5}, {4, 3}};
        for (int v = 0; v < 6; v++) {
            run.targetsAre(0, v, ways[v]);
        }
        run.due(6, "clear");
        int[] along = {0, 1, 3, 5, 4, 2, 0, 1};
        for (int n = 1; n < 8; n++) {
            run.due(n, "letter", 1);
            run.due(along[n], "trace", 0);
        }
    }

    private static void tree() {
        Run run = new Run(2, "The way by which a vertex got its number belongs to the TREE");
        run.generate(2, 0, 1, 1);
        run.elementIs(0, 0, 1, 1);
        run.generate(2, 1, 1, -2);
        run.elementIs(1, 0, 2, -1);
        run.generate(2, 2, 2, 1);
        run.elementIs(2, 0, 2, 1);
        run.generate(2, 3, -1, 2);
        run.elementIs(3, 0, -1, 2);
    }

    private static void treeAndRings() {
        Run run = new Run(2, "so there is one way in it from the base to each vertex");
        run.generate(1, 0, 2);
        run.elementIs(0, 0, 2);
        run.generate(1, 0, 1);
        run.elementIs(0, 0, 1);
        run.elementIs(0, 1, 2);
        run.generate(3, 1, 1, 1, 1);
        run.elementIs(1, 0, 1, 1, 1);
        run.generate(4, 2, 1, 2, -1, -2);
        run.elementIs(2, 0, 2, 1, -2, -1);
        run.generate(2, 3, 1, 2, -1);
        run.elementIs(3, 0, 1, 2, -1);
        run.due(NONE, "length", 3, 1);
    }

    private static void basisOrder() {
        Run run = new Run(3,
            "for each vertex v, by number, and each letter x from 1 to N .. They are numbered from 0.");
        // index 2: 3 goes across, 1 and 2 are rings at both vertices
        run.generate(2, 0, 3, 3);
        run.generate(2, 0, 3, 2, -3);
        run.generate(2, 0, 3, 1, -3);
        run.generate(2, 0, 2);
        run.generate(2, 0, 1);
        run.figuresAre(0, 2, 6, 5, 2);
        run.due(NONE, "length", 0, -1);
        run.elementIs(0, 0, 1);
        run.elementIs(0, 1, 2);
        run.elementIs(0, 2, 3, 1, -3);
        run.elementIs(0, 3, 3, 2, -3);
        run.elementIs(0, 4, 3, 3);
        run.due(NONE, "length", 0, 5);
    }

    private static void writtenInOneWay() {
        Run run = new Run(2, "a row of these and their inverses, none beside its own inverse");
        run.generate(2, 0, 1, 2, -1);
        run.generate(3, 0, 2, 1, -2);
        run.elementIs(0, 0, 1, 2, -1);
        run.elementIs(0, 1, 2, 1, -2);
        run.type(1, 2, 2, -1);
        run.writtenIs(0, 1, 1);
        run.type(1, -2, -1, 2, -1, -2);
        run.writtenIs(0, -1, -2);
        run.types(5, "letter", 2);
        run.writtenIs(0);
    }

    private static void foldAsLongAs() {
        Run run = new Run(1, "as long as two ways by the same letter lead from a vertex to two others");
        run.generate(24, 0, Run.power(1, 24));
        run.generate(1, 0, Run.power(1, 23));
        run.figuresAre(0, 1, 1, 1, 1);
        run.generate(24, 1, Run.power(-1, 24));
        run.generate(6, 1, Run.power(1, 18));
        run.figuresAre(1, 6, 6, 1, 6);
        run.changes(2, 6, "join", 2, 1, 1);
        run.changes(2, 1, "join", 2, 2, 0);
    }

    private static void foldSeveralEdges() {
        Run run = new Run(2, "of several edges with the same letter between the same vertices one stays");
        run.generate(2, 0, 1, 2);
        run.generate(2, 0, 1, 2);
        run.figuresAre(0, 2, 2, 1, 0);
        run.generate(2, 0, -2, -1);
        run.figuresAre(0, 2, 2, 1, 0);
        run.generate(1, 1, 2);
        run.generate(1, 1, -2);
        run.figuresAre(1, 1, 1, 1, 0);
        run.changes(3, 1, "join", 3, 1, 1);
        run.figuresAre(3, 1, 1, 1, 0);
    }

    private static void trimAsLongAs() {
        Run run = new Run(3, "as long as a vertex but the base has just one way, it is taken away");
        run.generate(1, 0, 1);
        run.type(Run.power(2, 24));
        run.changes(1, 25, "conjugate", 1, 0);
        run.due(24, "invert");
        run.changes(1, 1, "conjugate", 1, 1);
        run.figuresAre(1, 1, 1, 1, 0);
        run.changes(1, 1, "conjugate", 1, 2);
        run.figuresAre(1, 1, 0, 0, 0);
        // rows of three edges to rings by 1, by 1 1 and by 3
        run.type(2, 2, 2);
        run.changes(1, 4, "conjugate", 1, 0);
        run.generate(2, 2, 1, 1);
        run.type(2, 2, 2);
        run.changes(2, 5, "conjugate", 2, 2);
        run.changes(3, 5, "meet", 3, 1, 2);
        run.elementIs(3, 0, -2, -2, -2, 1, 1, 2, 2, 2);
        run.due(5, "drop", 2);
        run.generate(1, 2, 3);
        run.type(2, 2, 2);
        run.changes(2, 4, "conjugate", 2, 2);
        run.changes(3, 1, "meet", 3, 1, 2);
        run.figuresAre(3, 1, 0, 0, 0);
    }
}
