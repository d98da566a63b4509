/** The boundary cases that promises 7 to 11 of DOC.md name: calls that make a subgroup another, and 64 vertices. */
public final class SubgroupBoundaries {
    private static final int NONE = Run.NONE;
    private static final int FULL = Run.FULL;
    private static final String MOST = "A graph may have at most 64 vertices, also before it is folded or trimmed; "
        + "when it would have more, the answer is FULL, and nothing is changed.";

    public static void main(String[] args) {
        generateBySize();
        generateByWordsOfIt();
        generateNone();
        generateTo64();
        generateTo64BeforeFolding();
        dropSize();
        dropNone();
        conjugateByEmptyWord();
        conjugateOfEmptyWordAlone();
        conjugateItself();
        conjugateNone();
        conjugateTo64();
        conjugateTo64BeforeFolding();
        conjugateTo64BeforeTrimming();
        meetOfEmptyWordAlone();
        meetIntoItself();
        meetNone();
        meetOf63();
        meetOf64();
        meetOf65();
        for (int ring = 0; ring <= 1; ring++) {
            meetBeforeTrimming(3, 21, ring);
            meetBeforeTrimming(4, 16, ring);
            meetBeforeTrimming(5, 13, ring);
        }
        joinOfEmptyWordAlone();
        joinIntoItself();
        joinNone();
        joinTo64();
        joinTo64BeforeFolding();
        joinOfMostEdges();
        Run.end();
    }

    private static void generateBySize() {
        Run run = new Run(2, "a ring of as many edges as the word has letters is put to the base");
        run.type();
        run.stays(1, "generate", 0);
        run.figuresAre(0, 1, 0, 0, 0);
        for (int size = 1; size <= 3; size++) {
            run.due(size, "letter", 1);
            run.changes(size, size, "generate", size);
            run.figuresAre(size, size, size, 1, 0);
        }
        for (int size : new int[] {23, 24}) {
            run.type(Run.ring(size, 1, 2));
            run.changes(0, size, "generate", 0);
            run.figuresAre(0, size, size, 1, 0);
            run.typedIs(Run.ring(size, 1, 2));
            run.changes(0, size, "drop", 0);
        }
    }

    private static void generateByWordsOfIt() {
        Run run = new Run(2, "The least subgroup with all words of s and the typed word becomes s");
        run.generate(2, 0, 1, 1);
        run.generate(2, 0, 2);
        run.type();
        run.stays(2, "generate", 0);
        run.type(1, 1);
        run.stays(2, "generate", 0);
        run.type(2, -1, -1, -2, 1, 1);
        run.stays(2, "generate", 0);
        run.type(1, 2, -1);
        run.due(0, "member", 0);
        run.changes(0, 2, "generate", 0);
        run.due(1, "member", 0);
        run.figuresAre(0, 2, 4, 3, 2);
        run.type(1);
        run.changes(0, 1, "generate", 0);
        run.figuresAre(0, 1, 2, 2, 1);
        run.type(1, 2, 2, -1, 2);
        run.stays(1, "generate", 0);
    }

    private static void generateNone() {
        Run run = four("NONE when there is no such subgroup.");
        run.noSubgroup(NONE, 0, "generate", 0);
        run.type();
        run.noSubgroup(NONE, 0, "generate", 0);
        run.type(2, 1);
        run.changes(0, 2, "generate", 0);
        run.changes(3, 3, "generate", 3);
    }

    private static void generateTo64() {
        for (int vertices = 63; vertices <= 65; vertices++) {
            Run run = new Run(3, MOST);
            run.generate(24, 2, Run.times(12, 1, 2));
            run.generate(47, 2, Run.times(12, 2, 3));
            run.type(Run.ring(vertices - 46, 3, 1));
            if (vertices <= 64) {
                run.changes(2, vertices, "generate", 2);
                run.figuresAre(2, vertices, vertices + 2, 3, 0);
            } else {
                run.stays(FULL, "generate", 2);
                run.figuresAre(2, 47, 48, 2, 0);
                run.due(0, "member", 2);
                run.typedIs(Run.ring(19, 3, 1));
                run.due(19, "clear");
                run.stays(47, "generate", 2);
            }
        }
    }

    /** The ring 1 2 makes the ring of 24 edges one of two; it brings one vertex before it is folded. */
    private static void generateTo64BeforeFolding() {
        for (int vertices = 62; vertices <= 64; vertices++) {
            Run run = new Run(3, MOST);
            run.fill(1, vertices);
            run.type(1, 2);
            if (vertices < 64) {
                run.changes(1, vertices - 22, "generate", 1);
            } else {
                run.stays(FULL, "generate", 1);
                // a word of the subgroup would change nothing, but its ring is too much before it is folded
                run.type(Run.times(12, 1, 2));
                run.due(1, "member", 1);
                run.stays(FULL, "generate", 1);
                run.type();
                run.stays(64, "generate", 1);
                // a ring of one edge brings no vertex: it makes the base and its neighbours by 1 and -1 one
                run.type(1);
                run.changes(1, 60, "generate", 1);
            }
        }
    }

    private static void dropSize() {
        for (int vertices : new int[] {1, 2, 24, 63, 64}) {
            Run run = new Run(3, "A subgroup has the empty word alone: how many vertices its graph had");
            run.generate(2, 0, 2, 2);
            if (vertices > 49) {
                run.fill(2, vertices);
            } else {
                run.type(Run.power(1, vertices));
                run.due(vertices, "generate", 2);
            }
            run.changes(2, vertices, "drop", 2);
            run.figuresAre(2, 1, 0, 0, 0);
            run.targetsAre(2, 0, NONE, NONE, NONE, NONE, NONE, NONE);
            run.due(NONE, "target", 2, 1, 1);
            run.due(NONE, "length", 2, 0);
            run.due(0, "basis", 2, 0, 0);
            run.due(0, "member", 2);
            run.due(1, "contains", 3, 2);
            run.due(1, "normal", 2);
            run.stays(1, "drop", 2);
            run.type(1, 2);
            run.changes(2, 2, "generate", 2);
            run.elementIs(2, 0, 1, 2);
        }
        Run run = new Run(1, "A subgroup has the empty word alone: how many vertices its graph had");
        for (int s = 0; s < 4; s++) {
            run.stays(1, "drop", s);
        }
    }

    private static void dropNone() {
        Run run = four("NONE when there is no such subgroup.");
        run.noSubgroup(NONE, 0, "drop", 0);
        run.changes(0, 2, "drop", 0);
        run.changes(3, 3, "drop", 3);
    }

    private static void conjugateByEmptyWord() {
        Run run = four("a row of as many edges as w has letters is put to the base of a copy of s");
        run.type();
        run.stays(3, "conjugate", 3, 3);
        run.changes(1, 3, "conjugate", 1, 3);
        run.due(1, "contains", 1, 3);
        run.due(1, "contains", 3, 1);
        run.changes(1, 2, "conjugate", 1, 0);
        run.elementIs(1, 0, 1, 1);
    }

    private static void conjugateOfEmptyWordAlone() {
        for (int size : new int[] {0, 1, 2, 23, 24}) {
            Run run = new Run(2, "the words that w's inverse, a word of s, and w are, put together, become subgroup d");
            run.generate(3, 1, 1, 2, 2);
            run.type(Run.ring(size, 2, 1));
            run.stays(1, "conjugate", 0, 0);
            run.stays(1, "conjugate", 0, 3);
            run.changes(1, 1, "conjugate", 1, 0);
            run.figuresAre(1, 1, 0, 0, 0);
        }
    }

    private static void conjugateItself() {
        Run run = new Run(2, "the words that w's inverse, a word of s, and w are, put together, become subgroup d");
        run.generate(2, 0, 1, 1);
        run.type(2);
        run.changes(0, 3, "conjugate", 0, 0);
        run.elementIs(0, 0, -2, 1, 1, 2);
        run.typedIs(2);
        run.type(-2, 1);
        run.changes(0, 2, "conjugate", 0, 0);
        run.elementIs(0, 0, 1, 1);
        // a word of s changes nothing, nor does any word when s has all words
        run.type(1, 1);
        run.stays(2, "conjugate", 0, 0);
        run.generate(1, 0, 1);
        run.generate(1, 0, 2);
        run.type(1, 2, -1);
        run.stays(1, "conjugate", 0, 0);
    }

    private static void conjugateNone() {
        Run run = four("NONE when there is no such subgroup.");
        run.noSubgroup(NONE, 0, "conjugate", 0, 0);
        run.noSubgroup(NONE, 0, "conjugate", 0, 3);
        run.noSubgroup(NONE, 1, "conjugate", 0, 0);
        run.noSubgroup(NONE, 1, "conjugate", 3, 0);
        run.stays(NONE, "conjugate", 4, -1);
        run.changes(3, 4, "conjugate", 3, 0);
        run.changes(0, 2, "conjugate", 0, 1);
    }

    private static void conjugateTo64() {
        for (int size = 15; size <= 17; size++) {
            Run run = new Run(3, MOST);
            run.generate(24, 0, Run.power(1, 24));
            run.generate(2, 3, 3, 3);
            run.type(Run.power(2, 24));
            run.changes(1, 48, "conjugate", 1, 0);
            run.type(Run.power(2, size));
            if (size <= 16) {
                run.changes(3, 48 + size, "conjugate", 3, 1);
                run.figuresAre(3, 48 + size, 48 + size, 1, 0);
                run.due(72 + 2 * size, "length", 3, 0);
                run.changes(1, 48 + size, "conjugate", 1, 1);
                run.due(1, "contains", 1, 3);
            } else {
                run.stays(FULL, "conjugate", 3, 1);
                run.stays(FULL, "conjugate", 1, 1);
                run.figuresAre(3, 2, 2, 1, 0);
                run.figuresAre(1, 48, 48, 1, 0);
                run.stays(NONE, "conjugate", 4, 1);
                run.due(16, "letter", -2);
                run.changes(3, 64, "conjugate", 3, 1);
            }
        }
    }

    /** The row goes along a ring of s, so that it is all folded. */
    private static void conjugateTo64BeforeFolding() {
        for (int vertices = 62; vertices <= 64; vertices++) {
            Run run = new Run(3, MOST);
            run.fill(1, vertices);
            run.type(3);
            if (vertices < 64) {
                run.changes(0, vertices, "conjugate", 0, 1);
                run.figuresAre(0, vertices, vertices + 2, 3, 0);
            } else {
                run.stays(FULL, "conjugate", 0, 1);
                run.stays(FULL, "conjugate", 1, 1);
                run.type();
                run.changes(0, 64, "conjugate", 0, 1);
            }
        }
    }

    /** The row goes back along the way to a ring, so that it is folded, and what is beyond it trimmed. */
    private static void conjugateTo64BeforeTrimming() {
        for (int size = 14; size <= 16; size++) {
            Run run = new Run(2, MOST);
            run.generate(24, 0, Run.power(1, 24));
            run.type(Run.power(2, 24));
            run.due(48, "conjugate", 0, 0);
            run.type(Run.power(2, size));
            run.due(48 + size, "conjugate", 0, 0);
            run.type(-2);
            if (size < 16) {
                run.changes(0, 47 + size, "conjugate", 0, 0);
                run.figuresAre(0, 47 + size, 47 + size, 1, 0);
            } else {
                run.stays(FULL, "conjugate", 0, 0);
                run.stays(FULL, "conjugate", 3, 0);
                run.figuresAre(0, 64, 64, 1, 0);
            }
        }
    }

    private static void meetOfEmptyWordAlone() {
        Run run = four("The words that x and y have both become subgroup d");
        run.stays(1, "meet", 2, 2, 2);
        run.stays(1, "meet", 2, 2, 0);
        run.stays(1, "meet", 2, 3, 2);
        run.changes(1, 1, "meet", 1, 2, 1);
        run.figuresAre(1, 1, 0, 0, 0);
        run.changes(3, 1, "meet", 3, 0, 3);
        run.figuresAre(3, 1, 0, 0, 0);
    }

    private static void meetIntoItself() {
        Run run = new Run(2, "The words that x and y have both become subgroup d");
        run.generate(4, 0, Run.power(1, 4));
        run.generate(6, 1, Run.power(1, 6));
        run.stays(4, "meet", 0, 0, 0);
        run.changes(2, 12, "meet", 2, 0, 1);
        run.changes(3, 12, "meet", 3, 1, 0);
        run.elementIs(2, 0, Run.power(1, 12));
        run.due(1, "contains", 2, 3);
        run.due(1, "contains", 3, 2);
        run.changes(0, 12, "meet", 0, 0, 1);
        run.elementIs(0, 0, Run.power(1, 12));
        run.changes(1, 12, "meet", 1, 0, 1);
        run.elementIs(1, 0, Run.power(1, 12));
        run.typedIs(Run.power(1, 6));
    }

    private static void meetNone() {
        Run run = four("NONE when there is no such subgroup.");
        for (int place = 0; place < 3; place++) {
            run.noSubgroup(NONE, place, "meet", 0, 0, 0);
            run.noSubgroup(NONE, place, "meet", 3, 3, 3);
        }
        run.stays(NONE, "meet", -1, 4, 4);
        run.changes(0, 1, "meet", 0, 0, 3);
        run.changes(3, 1, "meet", 3, 3, 0);
    }

    private static void meetOf63() {
        Run run = new Run(2, MOST);
        run.counting(0, 1, 7);
        run.counting(1, 2, 9);
        run.changes(2, 63, "meet", 2, 0, 1);
        run.figuresAre(2, 63, 126, 64, 63);
        run.changes(3, 63, "meet", 3, 1, 0);
        run.due(1, "contains", 2, 3);
        run.due(1, "contains", 3, 2);
        run.stays(63, "meet", 3, 3, 2);
        run.changes(0, 63, "meet", 0, 2, 0);
    }

    private static void meetOf64() {
        Run run = new Run(2, MOST);
        run.counting(0, 1, 8);
        run.counting(1, 2, 8);
        run.changes(2, 64, "meet", 2, 0, 1);
        run.figuresAre(2, 64, 128, 65, 64);
        run.changes(3, 64, "meet", 3, 1, 0);
        run.due(1, "contains", 2, 3);
        run.due(1, "contains", 3, 2);
        run.stays(64, "meet", 3, 3, 2);
        run.changes(0, 64, "meet", 0, 2, 0);
    }

    private static void meetOf65() {
        Run run = new Run(2, MOST);
        run.counting(0, 1, 5);
        run.counting(1, 2, 13);
        run.generate(2, 2, 1, 2);
        run.stays(FULL, "meet", 2, 0, 1);
        run.stays(FULL, "meet", 2, 1, 0);
        run.stays(FULL, "meet", 0, 0, 1);
        run.stays(FULL, "meet", 1, 0, 1);
        run.stays(NONE, "meet", 4, 0, 1);
        run.figuresAre(0, 5, 10, 6, 5);
        run.figuresAre(1, 13, 26, 14, 13);
        run.figuresAre(2, 2, 2, 1, 0);
        run.changes(3, 10, "meet", 3, 0, 2);
    }

    /**
     * The pairs are rows of 1 along a row of 2, count of them with size pairs each; all are trimmed but the base, or
     * with a ring at x's base but the first row.
     */
    private static void meetBeforeTrimming(int count, int size, int ring) {
        Run run = new Run(3, MOST);
        for (int i = 0; i < count; i++) {
            run.generate(i + 1, 0, Run.put(Run.power(2, i), Run.word(1), Run.power(-2, i)));
        }
        if (ring == 1) {
            run.generate(count, 0, 3);
        }
        run.generate(1, 1, 2);
        run.generate(size, 1, Run.put(Run.power(1, size - 1), Run.word(3)));
        run.generate(2, 3, 3, 3);
        int left = ring == 1 ? size : 1;
        if (count * size <= 64) {
            run.changes(3, left, "meet", 3, 0, 1);
            run.figuresAre(3, left, ring == 1 ? size : 0, ring, 0);
            run.changes(0, left, "meet", 0, 1, 0);
        } else {
            run.stays(FULL, "meet", 3, 0, 1);
            run.stays(FULL, "meet", 3, 1, 0);
            run.stays(FULL, "meet", 0, 0, 1);
            run.figuresAre(3, 2, 2, 1, 0);
        }
    }

    private static void joinOfEmptyWordAlone() {
        Run run = four("The least subgroup with all words of x and of y becomes d");
        run.stays(1, "join", 2, 2, 2);
        run.stays(2, "join", 0, 0, 2);
        run.stays(3, "join", 3, 2, 3);
        run.changes(2, 3, "join", 2, 2, 3);
        run.due(1, "contains", 2, 3);
        run.due(1, "contains", 3, 2);
    }

    private static void joinIntoItself() {
        Run run = new Run(2, "The least subgroup with all words of x and of y becomes d");
        run.generate(4, 0, Run.power(1, 4));
        run.generate(6, 1, Run.power(1, 6));
        run.stays(4, "join", 0, 0, 0);
        run.changes(2, 2, "join", 2, 0, 1);
        run.changes(3, 2, "join", 3, 1, 0);
        run.elementIs(2, 0, 1, 1);
        run.elementIs(3, 0, 1, 1);
        run.changes(0, 2, "join", 0, 0, 1);
        run.elementIs(0, 0, 1, 1);
        run.changes(1, 2, "join", 1, 0, 1);
        run.elementIs(1, 0, 1, 1);
        run.typedIs(Run.power(1, 6));
    }

    private static void joinNone() {
        Run run = four("NONE when there is no such subgroup.");
        for (int place = 0; place < 3; place++) {
            run.noSubgroup(NONE, place, "join", 0, 0, 0);
            run.noSubgroup(NONE, place, "join", 3, 3, 3);
        }
        run.stays(NONE, "join", -1, 4, 4);
        run.changes(0, 4, "join", 0, 0, 3);
        run.stays(4, "join", 0, 3, 0);
    }

    private static void joinTo64() {
        for (int vertices = 63; vertices <= 65; vertices++) {
            Run run = new Run(3, MOST);
            run.generate(24, 0, Run.times(12, 1, 2));
            run.generate(vertices - 23, 0, Run.ring(vertices - 46, 2, 3));
            run.generate(24, 1, Run.times(12, 3, 1));
            run.generate(2, 3, 3, 3);
            if (vertices <= 64) {
                run.changes(3, vertices, "join", 3, 0, 1);
                run.figuresAre(3, vertices, vertices + 2, 3, 0);
                run.changes(1, vertices, "join", 1, 1, 0);
                run.due(1, "contains", 1, 3);
            } else {
                run.stays(FULL, "join", 3, 0, 1);
                run.stays(FULL, "join", 3, 1, 0);
                run.stays(FULL, "join", 0, 0, 1);
                run.stays(FULL, "join", 1, 0, 1);
                run.stays(NONE, "join", 4, 0, 1);
                run.figuresAre(3, 2, 2, 1, 0);
            }
        }
    }

    /** The words of one are all in the other, so that its copy is all folded. */
    private static void joinTo64BeforeFolding() {
        Run run = new Run(3, MOST);
        for (int s = 0; s <= 1; s++) {
            run.generate(24, s, Run.times(12, 1, 2));
            run.generate(32, s, Run.ring(9, 2, 3));
        }
        run.generate(33, 1, 3, 1);
        run.due(1, "contains", 1, 0);
        run.changes(2, 32, "join", 2, 0, 0);
        run.figuresAre(2, 32, 33, 2, 0);
        run.changes(2, 33, "join", 2, 0, 1);
        run.figuresAre(2, 33, 35, 3, 0);
        run.changes(3, 33, "join", 3, 1, 0);
        run.stays(FULL, "join", 3, 1, 1);
        run.stays(FULL, "join", 1, 1, 1);
        run.stays(FULL, "join", 0, 1, 2);
    }

    private static void joinOfMostEdges() {
        Run run = new Run(3, MOST);
        run.counting(0, 1, 8);
        run.counting(1, 2, 8);
        run.changes(0, 64, "meet", 0, 0, 1);
        run.figuresAre(0, 64, 192, 129, 64);
        run.changes(1, 8, "drop", 1);
        run.changes(2, 64, "join", 2, 0, 1);
        run.figuresAre(2, 64, 192, 129, 64);
        run.generate(1, 1, 2);
        run.changes(3, 8, "join", 3, 0, 1);
        run.generate(1, 1, 1);
        run.generate(1, 1, 3);
        run.changes(3, 1, "join", 3, 1, 0);
        run.figuresAre(3, 1, 3, 3, 1);
        run.changes(3, 1, "join", 3, 0, 1);
        run.type(1, 3);
        run.stays(FULL, "generate", 0);
        run.stays(FULL, "conjugate", 3, 0);
        run.type(1);
        run.changes(0, 8, "generate", 0);
    }

    /** Subgroups 0, 1 and 3 have the powers of 1 1, 2 and 2 2 2, subgroup 2 the empty word alone; 2 1 is typed. */
    private static Run four(String sentence) {
        Run run = new Run(2, sentence);
        run.generate(2, 0, 1, 1);
        run.generate(1, 1, 2);
        run.generate(3, 3, 2, 2, 2);
        run.type(2, 1);
        return run;
    }
}
