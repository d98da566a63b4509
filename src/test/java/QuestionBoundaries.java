/** The boundary cases that promises 12 to 20 of DOC.md name: calls that ask and change nothing. */
public final class QuestionBoundaries {
    private static final int NONE = Run.NONE;
    private static final int MIN = Run.MIN;
    private static final int MAX = Run.MAX;
    private static final String INDEX = "the number of vertices, when every one has ways by all 2 * N letters; "
        + "0 otherwise.";
    private static final String MOVED = "Whether for all words w of letters 1 .. N, w's inverse, a word of s, and w, "
        + "put together, are a word of s, for all of its words";

    public static void main(String[] args) {
        memberOfEach();
        memberOfLongWords();
        memberNone();
        traceToEachVertex();
        traceToTheLastOf64();
        traceLeadsNotOn();
        traceNone();
        writtenItems();
        writtenNoItem();
        writtenOfMostItems();
        writtenNotInIt();
        writtenNoSubgroup();
        lengthOfEach();
        lengthNone();
        lengthOfMostElements();
        basisLetters();
        basisNone();
        targetVertices();
        targetNoVertex();
        targetOf64();
        targetNoLetter();
        targetNoSubgroup();
        figureWhat();
        figureNone();
        figureIndex();
        figureIndexOfOneLetter();
        figureIndexOf64();
        containsOfEmptyWordAlone();
        containsOneWordMore();
        containsAnotherTarget();
        containsOf64();
        containsNone();
        normalOfEmptyWordAlone();
        normalOfAllWords();
        normalWithoutIndex();
        normalOfIndex();
        normalForEachLetter();
        normalOf64();
        normalNone();
        Run.end();
    }

    private static void memberOfEach() {
        Run run = new Run(2, "Whether the typed word is in a subgroup");
        run.generate(3, 0, 1, 2, 1);
        run.type();
        run.stays(1, "member", 0);
        run.type(1);
        run.stays(0, "member", 0);
        run.type(1, 2);
        run.stays(0, "member", 0);
        run.type(1, 2, 1);
        run.stays(1, "member", 0);
        run.stays(0, "member", 1);
        run.due(3, "invert");
        run.stays(1, "member", 0);
        run.type(1, 2, 1, 1);
        run.stays(0, "member", 0);
        run.type(2, 1, 2);
        run.stays(0, "member", 0);
    }

    private static void memberOfLongWords() {
        Run run = new Run(2, "Whether the typed word is in a subgroup");
        run.generate(12, 0, Run.ring(12, 1, 2));
        run.generate(24, 3, Run.power(1, 24));
        run.type(Run.power(1, 23));
        run.due(0, "member", 3);
        run.due(24, "letter", 1);
        run.due(1, "member", 3);
        run.type(Run.ring(23, 1, 2));
        run.due(0, "member", 0);
        run.type(Run.ring(24, 1, 2));
        run.due(1, "member", 0);
        run.due(24, "invert");
        run.due(1, "member", 0);
        run.due(0, "member", 3);
    }

    private static void memberNone() {
        Run run = twoAndThree("false when there is no such subgroup.");
        run.stays(1, "member", 0);
        run.stays(1, "member", 3);
        run.noSubgroup(0, 0, "member", 0);
        run.type();
        run.noSubgroup(0, 0, "member", 0);
    }

    private static void traceToEachVertex() {
        Run run = new Run(2, "The vertex to which the typed word leads from the base");
        run.generate(4, 0, 1, 1, 2, 2);
        run.type();
        int[] vertices = {1, 3, 2, 0, 1, 3};
        int[] word = {1, 1, 2, 2, 1, 1};
        run.stays(0, "trace", 0);
        for (int i = 0; i < word.length; i++) {
            run.due(i + 1, "letter", word[i]);
            run.stays(vertices[i], "trace", 0);
        }
    }

    private static void traceToTheLastOf64() {
        Run run = new Run(3, "The vertex to which the typed word leads from the base");
        run.fill(0, 64);
        run.type(Run.times(6, 1, 2));
        run.stays(62, "trace", 0);
        run.type(Run.times(6, 2, 3));
        run.stays(63, "trace", 0);
        run.type(Run.times(6, -3, -2));
        run.stays(63, "trace", 0);
        run.type(Run.times(12, 2, 3));
        run.stays(0, "trace", 0);
    }

    private static void traceLeadsNotOn() {
        Run run = new Run(2, "NONE when it does not lead on somewhere");
        run.generate(3, 0, 1, 1, 2);
        // it leads not on at the first letter, in the middle, at the last
        run.type(2);
        run.stays(NONE, "trace", 0);
        run.type(2, 1, 1, 2);
        run.stays(NONE, "trace", 0);
        run.type(1, 1, 1, 1, 2);
        run.stays(NONE, "trace", 0);
        run.type(1, 1, 2, 1, 2);
        run.stays(NONE, "trace", 0);
        run.due(4, "letter", -2);
        run.stays(1, "trace", 0);
        run.stays(NONE, "trace", 1);
        run.type(Run.put(Run.times(7, 1, 1, 2), Run.word(1, 2)));
        run.stays(NONE, "trace", 0);
        run.due(22, "letter", -2);
        run.stays(1, "trace", 0);
        // where it has led nowhere, no other way goes on from vertex 0
        run.type(2, 1);
        run.stays(NONE, "trace", 0);
    }

    private static void traceNone() {
        Run run = twoAndThree("NONE when .. there is no such subgroup.");
        run.stays(0, "trace", 0);
        run.stays(0, "trace", 3);
        run.noSubgroup(NONE, 0, "trace", 0);
        run.type();
        run.noSubgroup(NONE, 0, "trace", 0);
    }

    private static void writtenItems() {
        Run run = new Run(2, "item i (from 0): k + 1 for element k, -(k + 1) for its inverse");
        run.generate(2, 0, 1, 1);
        run.generate(2, 0, 1, 2, -1);
        run.generate(2, 0, 2);
        run.elementIs(0, 0, 2);
        run.elementIs(0, 1, 1, 1);
        run.elementIs(0, 2, 1, 2, -1);
        run.type(2);
        run.writtenIs(0, 1);
        run.type(-2);
        run.writtenIs(0, -1);
        run.type(1, 2, -1);
        run.writtenIs(0, 3);
        run.type(1, -2, -1);
        run.writtenIs(0, -3);
        run.type(2, 1, 1, 2, -1, -1, -2, 1, 2, 2, 1, 2);
        run.writtenIs(0, 1, 2, 1, -2, -1, 3, 3, 2, 1);
        run.due(12, "invert");
        run.writtenIs(0, -1, -2, -3, -3, 1, 2, -1, -2, -1);
        // the way back along the edge of element 1 begins at the base
        run.type(-1, -1);
        run.writtenIs(0, -2);
        run.type(-1, 2, 1);
        run.writtenIs(0, -2, 3, 2);
    }

    private static void writtenNoItem() {
        Run run = new Run(2, "0 when there is no such item");
        run.generate(2, 0, 1, 1);
        run.type();
        for (int no : new int[] {-1, 0, 1, 23, 24, MIN, MAX}) {
            run.stays(0, "written", 0, no);
            run.stays(0, "written", 1, no);
        }
        run.type(1, 1, 1, 1);
        run.stays(1, "written", 0, 0);
        run.stays(1, "written", 0, 1);
        for (int no : new int[] {-1, 2, 3, 4, 5, 24, MIN, MAX}) {
            run.stays(0, "written", 0, no);
        }
    }

    private static void writtenOfMostItems() {
        Run run = new Run(1, "0 when there is no such item");
        run.generate(1, 0, 1);
        run.type(Run.power(1, 23));
        run.due(1, "written", 0, 22);
        run.due(0, "written", 0, 23);
        run.due(24, "letter", 1);
        run.writtenIs(0, Run.power(1, 24));
        run.due(0, "written", 0, 25);
        run.due(24, "invert");
        run.writtenIs(0, Run.power(-1, 24));
    }

    private static void writtenNotInIt() {
        Run run = new Run(2, "0 when .. the word is not in it");
        run.generate(2, 0, 1, 1);
        run.generate(2, 0, 2);
        run.elementIs(0, 0, 2);
        run.elementIs(0, 1, 1, 1);
        run.type(2, 1, 1);
        run.writtenIs(0, 1, 2);
        // it leads to another vertex
        run.due(4, "letter", 1);
        for (int i = -1; i <= 4; i++) {
            run.stays(0, "written", 0, i);
        }
        // it leads nowhere
        run.due(5, "letter", 2);
        for (int i = -1; i <= 5; i++) {
            run.stays(0, "written", 0, i);
        }
        run.stays(0, "written", 1, 0);
    }

    private static void writtenNoSubgroup() {
        Run run = twoAndThree("0 when there is no such .. subgroup");
        run.stays(1, "written", 0, 0);
        run.stays(1, "written", 3, 0);
        run.noSubgroup(0, 0, "written", 0, 0);
        run.noSubgroup(0, 0, "written", 0, 1);
        run.noSubgroup(0, 0, "written", 0, -1);
    }

    private static void lengthOfEach() {
        Run run = new Run(2, "How many letters element k of the basis has");
        run.generate(1, 0, 2);
        run.stays(1, "length", 0, 0);
        run.generate(2, 0, 1, 1);
        run.stays(1, "length", 0, 0);
        run.stays(2, "length", 0, 1);
        run.generate(24, 3, Run.power(1, 24));
        run.stays(24, "length", 3, 0);
        run.type(Run.power(2, 24));
        run.due(48, "conjugate", 3, 3);
        run.stays(72, "length", 3, 0);
        run.type(Run.power(2, 16));
        run.due(64, "conjugate", 3, 3);
        run.stays(104, "length", 3, 0);
        run.due(-2, "basis", 3, 0, 0);
        run.due(-2, "basis", 3, 0, 39);
        run.due(1, "basis", 3, 0, 40);
        run.due(1, "basis", 3, 0, 63);
        run.due(2, "basis", 3, 0, 64);
        run.due(2, "basis", 3, 0, 103);
        run.due(0, "basis", 3, 0, 104);
        // the longest: a way of 63 edges to a ring of one
        run.generate(1, 1, 1);
        run.type(Run.power(-2, 24));
        run.due(25, "conjugate", 1, 1);
        run.due(49, "conjugate", 1, 1);
        run.type(Run.power(-2, 15));
        run.due(64, "conjugate", 1, 1);
        run.stays(127, "length", 1, 0);
    }

    private static void lengthNone() {
        Run run = twoAndThree("NONE when there is no such subgroup or element.");
        run.stays(2, "length", 0, 0);
        run.stays(3, "length", 3, 0);
        run.noSubgroup(NONE, 0, "length", 0, 0);
        for (int no : new int[] {-1, 1, 2, MIN, MAX}) {
            run.stays(NONE, "length", 0, no);
            run.stays(NONE, "length", 3, no);
        }
        for (int no : new int[] {-1, 0, 1, MIN, MAX}) {
            run.stays(NONE, "length", 2, no);
        }
    }

    private static void lengthOfMostElements() {
        Run run = new Run(3, "NONE when there is no such .. element.");
        run.counting(0, 1, 8);
        run.counting(1, 2, 8);
        run.due(64, "meet", 2, 0, 1);
        run.due(129, "figure", 2, 2);
        // the vertex that is farthest, by 1 1 1 1 2 2 2 2, has the last number and a ring by 3
        run.due(17, "length", 2, 128);
        run.due(NONE, "length", 2, 129);
        run.due(NONE, "length", 2, -1);
        run.due(17, "take", 2, 128);
        run.writtenIs(2, 129);
        run.due(17, "invert");
        run.writtenIs(2, -129);
        run.due(NONE, "take", 2, 129);
        run.due(0, "basis", 2, 129, 0);
        run.due(3, "basis", 2, 128, 8);
    }

    private static void basisLetters() {
        Run run = new Run(2, "Letter i of element k of the basis");
        run.generate(3, 0, 1, 2, 2, -1);
        run.generate(3, 0, 2);
        run.stays(2, "basis", 0, 0, 0);
        run.stays(1, "basis", 0, 1, 0);
        run.stays(2, "basis", 0, 1, 1);
        run.stays(2, "basis", 0, 1, 2);
        run.stays(-1, "basis", 0, 1, 3);
    }

    private static void basisNone() {
        Run run = twoAndThree("0 when there is none.");
        run.stays(1, "basis", 0, 0, 1);
        run.stays(1, "basis", 3, 0, 2);
        for (int no : new int[] {-1, 2, 3, MIN, MAX}) {
            run.stays(0, "basis", 0, 0, no);
        }
        for (int no : new int[] {-1, 1, 2, MIN, MAX}) {
            run.stays(0, "basis", 0, no, 0);
            run.stays(0, "basis", 0, no, -1);
            run.stays(0, "basis", 0, no, -2);
        }
        run.stays(0, "basis", 2, 0, 0);
        run.stays(0, "basis", 2, 0, -1);
        run.noSubgroup(0, 0, "basis", 0, 0, 0);
        run.noSubgroup(0, 0, "basis", 0, 0, -2);
    }

    private static void targetVertices() {
        Run run = new Run(2, "The vertex to which letter x leads from vertex v of a graph");
        run.generate(3, 0, 1, 1, 2);
        run.stays(1, "target", 0, 0, 1);
        run.stays(2, "target", 0, 0, -2);
        run.stays(2, "target", 0, 1, 1);
        run.stays(0, "target", 0, 1, -1);
        run.stays(1, "target", 0, 2, -1);
        run.stays(0, "target", 0, 2, 2);
        // and where it leads nowhere
        run.stays(NONE, "target", 0, 0, -1);
        run.stays(NONE, "target", 0, 0, 2);
        run.stays(NONE, "target", 0, 1, 2);
        run.stays(NONE, "target", 0, 1, -2);
        run.stays(NONE, "target", 0, 2, 1);
        run.stays(NONE, "target", 0, 2, -2);
    }

    private static void targetNoVertex() {
        Run run = twoAndThree("NONE when there is no such .. vertex");
        run.stays(0, "target", 0, 1, 1);
        run.stays(1, "target", 3, 2, -1);
        for (int no : new int[] {-1, -2, 2, 3, 63, 64, 65, MIN, MAX}) {
            run.stays(NONE, "target", 0, no, 1);
            run.stays(NONE, "target", 0, no, -1);
        }
        run.stays(NONE, "target", 3, 3, 1);
        run.stays(NONE, "target", 2, 0, 1);
        run.stays(NONE, "target", 2, 1, 1);
    }

    private static void targetOf64() {
        for (int size = 14; size <= 15; size++) {
            Run run = new Run(2, "NONE when there is no such .. vertex");
            run.generate(1, 0, 1);
            run.type(Run.power(-2, 24));
            run.due(25, "conjugate", 0, 0);
            run.due(49, "conjugate", 0, 0);
            run.type(Run.power(-2, size));
            run.due(49 + size, "conjugate", 0, 0);
            int last = 48 + size;
            run.targetsAre(0, last - 1, NONE, NONE, last, last - 2);
            run.targetsAre(0, last, last, last, NONE, last - 1);
            run.targetsAre(0, last + 1, NONE, NONE, NONE, NONE);
            run.stays(NONE, "target", 0, last + 1, 1);
        }
    }

    private static void targetNoLetter() {
        for (int letters = 1; letters <= 3; letters++) {
            Run run = new Run(letters, "NONE when there is no such .. letter");
            for (int x = 1; x <= letters; x++) {
                run.generate(x == letters ? 2 : 1, 0, x == letters ? Run.word(x, x) : Run.word(x));
            }
            run.stays(1, "target", 0, 0, letters);
            run.stays(1, "target", 0, 0, -letters);
            run.stays(0, "target", 0, 1, letters);
            for (int no : new int[] {0, letters + 1, -letters - 1, MIN, MIN + 1, MAX}) {
                run.stays(NONE, "target", 0, 0, no);
                run.stays(NONE, "target", 0, 1, no);
            }
        }
    }

    private static void targetNoSubgroup() {
        Run run = twoAndThree("NONE when there is no such subgroup");
        run.stays(1, "target", 0, 0, 1);
        run.stays(1, "target", 3, 0, 1);
        run.noSubgroup(NONE, 0, "target", 0, 0, 1);
        run.noSubgroup(NONE, 0, "target", 0, 1, -1);
    }

    private static void figureWhat() {
        Run run = new Run(2,
            "how many vertices (what = 0) and edges (1) its graph has, how many elements its basis has (2)");
        run.figuresAre(0, 1, 0, 0, 0);
        run.generate(1, 0, 1);
        run.figuresAre(0, 1, 1, 1, 0);
        run.generate(3, 0, 2, 2, 2);
        run.figuresAre(0, 3, 4, 2, 0);
        run.generate(4, 0, -2, 1, 1, 2);
        run.figuresAre(0, 4, 6, 3, 0);
        for (int what = 0; what <= 3; what++) {
            run.stays(new int[] {4, 6, 3, 0}[what], "figure", 0, what);
        }
    }

    private static void figureNone() {
        Run run = twoAndThree("NONE when there is no such subgroup, or for another what.");
        for (int no : new int[] {-1, 4, 5, MIN, MAX}) {
            run.stays(NONE, "figure", 0, no);
            run.stays(NONE, "figure", 2, no);
            run.stays(NONE, "figure", 3, no);
            run.stays(NONE, "figure", 4, no);
        }
        for (int what = 0; what <= 3; what++) {
            run.noSubgroup(NONE, 0, "figure", 0, what);
        }
        run.figuresAre(0, 2, 2, 1, 0);
        run.figuresAre(3, 3, 3, 1, 0);
    }

    private static void figureIndex() {
        Run run = new Run(2, INDEX);
        // one edge is wanting, at the base and then at another vertex
        run.generate(2, 0, 1, 1);
        run.generate(2, 0, 1, 2, -1);
        run.figuresAre(0, 2, 3, 2, 0);
        run.generate(2, 0, 2);
        run.figuresAre(0, 2, 4, 3, 2);
        run.generate(2, 1, 1, 1);
        run.generate(2, 1, 2);
        run.figuresAre(1, 2, 3, 2, 0);
        run.generate(3, 1, 1, 2, 2, -1);
        run.figuresAre(1, 3, 5, 3, 0);
        run.generate(3, 1, 1, 2, 1, -2, -1);
        run.figuresAre(1, 3, 6, 4, 3);
    }

    private static void figureIndexOfOneLetter() {
        for (int letters = 1; letters <= 3; letters++) {
            Run run = new Run(letters, INDEX);
            run.figuresAre(0, 1, 0, 0, 0);
            run.generate(24, 0, Run.power(1, 24));
            run.figuresAre(0, 24, 24, 1, letters == 1 ? 24 : 0);
            run.generate(1, 1, 1);
            run.figuresAre(1, 1, 1, 1, letters == 1 ? 1 : 0);
            for (int x = 2; x <= letters; x++) {
                run.generate(1, 1, x);
                run.figuresAre(1, 1, x, x, letters == x ? 1 : 0);
            }
        }
    }

    private static void figureIndexOf64() {
        Run run = new Run(2, INDEX);
        run.counting(0, 1, 8);
        run.counting(1, 2, 8);
        run.due(64, "meet", 2, 0, 1);
        run.figuresAre(2, 64, 128, 65, 64);
        run.stays(64, "figure", 2, 3);
        Run other = new Run(3, INDEX);
        other.fill(0, 64);
        other.figuresAre(0, 64, 66, 3, 0);
    }

    private static void containsOfEmptyWordAlone() {
        Run run = twoAndThree("Whether all words of y are in x");
        run.stays(1, "contains", 0, 2);
        run.stays(1, "contains", 3, 2);
        run.stays(1, "contains", 2, 2);
        run.stays(0, "contains", 2, 0);
        run.stays(0, "contains", 2, 3);
        run.stays(1, "contains", 0, 0);
        run.stays(1, "contains", 3, 3);
        run.stays(0, "contains", 0, 3);
        run.stays(0, "contains", 3, 0);
    }

    private static void containsOneWordMore() {
        Run run = new Run(2, "Whether all words of y are in x");
        for (int s = 0; s <= 1; s++) {
            run.generate(2, s, 1, 1);
            run.generate(2, s, 2);
        }
        run.stays(1, "contains", 0, 1);
        run.stays(1, "contains", 1, 0);
        run.generate(2, 1, 1, 2, -1);
        run.stays(0, "contains", 0, 1);
        run.stays(1, "contains", 1, 0);
        run.generate(1, 0, 1);
        run.stays(1, "contains", 0, 1);
        run.stays(0, "contains", 1, 0);
    }

    private static void containsAnotherTarget() {
        Run run = new Run(2, "Whether all words of y are in x");
        // all ways lead on in both, but 2 is a ring in one and leads across in the other
        run.generate(2, 0, 1, 1);
        run.generate(2, 0, 2);
        run.generate(2, 0, 1, 2, -1);
        run.generate(2, 1, 1, 1);
        run.generate(2, 1, 1, 2);
        run.generate(2, 1, 2, 1);
        run.due(2, "figure", 0, 3);
        run.due(2, "figure", 1, 3);
        run.stays(0, "contains", 0, 1);
        run.stays(0, "contains", 1, 0);
        run.due(4, "meet", 2, 0, 1);
        run.stays(1, "contains", 0, 2);
        run.stays(1, "contains", 1, 2);
        run.stays(0, "contains", 2, 0);
        run.stays(0, "contains", 2, 1);
        // the tree of y leads on in x, but its last edge does not come back there
        run.generate(3, 3, 1, 1, 1);
        run.stays(0, "contains", 0, 3);
    }

    private static void containsOf64() {
        Run run = new Run(3, "Whether all words of y are in x");
        run.fill(0, 64);
        run.fill(1, 64);
        run.stays(1, "contains", 0, 1);
        run.type(1);
        run.due(60, "generate", 1);
        run.stays(0, "contains", 0, 1);
        run.stays(1, "contains", 1, 0);
    }

    private static void containsNone() {
        Run run = twoAndThree("false when there is no such subgroup.");
        run.noSubgroup(0, 0, "contains", 0, 0);
        run.noSubgroup(0, 0, "contains", 0, 2);
        run.noSubgroup(0, 1, "contains", 0, 0);
        run.noSubgroup(0, 1, "contains", 3, 0);
        run.stays(0, "contains", 4, 4);
        run.stays(0, "contains", -1, -1);
        run.stays(0, "contains", -1, 4);
    }

    private static void normalOfEmptyWordAlone() {
        for (int letters = 1; letters <= 3; letters++) {
            Run run = new Run(letters, MOVED);
            for (int s = 0; s < 4; s++) {
                run.stays(1, "normal", s);
            }
            run.generate(1, 0, 1);
            run.stays(letters == 1 ? 1 : 0, "normal", 0);
            run.due(1, "drop", 0);
            run.stays(1, "normal", 0);
        }
    }

    private static void normalOfAllWords() {
        for (int letters = 1; letters <= 3; letters++) {
            Run run = new Run(letters, MOVED);
            for (int x = 1; x <= letters; x++) {
                run.generate(1, 3, x);
                run.stays(x == letters ? 1 : 0, "normal", 3);
            }
        }
    }

    private static void normalWithoutIndex() {
        Run run = new Run(2, MOVED);
        run.generate(2, 0, 1, 1);
        run.stays(0, "normal", 0);
        run.generate(2, 0, 2);
        run.stays(0, "normal", 0);
        run.generate(2, 0, 1, 2, -1);
        run.stays(1, "normal", 0);
        run.generate(4, 1, 1, 2, -1, -2);
        run.stays(0, "normal", 1);
        run.generate(2, 2, 1, 2);
        run.stays(0, "normal", 2);
        // all letters lead on from the base, but not from its neighbours
        run.generate(3, 2, 2, 1);
        run.stays(0, "normal", 2);
    }

    private static void normalOfIndex() {
        for (int m = 1; m <= 5; m++) {
            Run run = new Run(1, MOVED);
            run.type(Run.power(1, m));
            run.due(m, "generate", 0);
            run.stays(1, "normal", 0);
        }
        for (int m = 2; m <= 5; m++) {
            Run run = new Run(2, MOVED);
            run.counting(0, 2, m);
            run.stays(1, "normal", 0);
        }
        Run run = new Run(2, MOVED);
        // index 3: 1 changes vertices 0 and 1, 2 changes 0 and 2
        run.generate(2, 0, 1, 1);
        run.generate(3, 0, 2, 2);
        run.generate(3, 0, 1, 2, -1);
        run.generate(3, 0, 2, 1, -2);
        run.due(3, "figure", 0, 3);
        run.stays(0, "normal", 0);
    }

    /** Index 3: one letter goes round, one is a ring at the base and changes the others, the rest are rings. */
    private static void normalForEachLetter() {
        for (int letters = 2; letters <= 3; letters++) {
            for (int round = 1; round <= letters; round++) {
                Run run = new Run(letters, MOVED);
                int changes = round % letters + 1;
                run.generate(3, 0, round, round, round);
                run.generate(3, 0, changes);
                run.generate(3, 0, round, changes, round);
                run.generate(3, 0, -round, changes, -round);
                for (int x = 1; x <= letters; x++) {
                    if (x != round && x != changes) {
                        run.generate(3, 0, x);
                        run.generate(3, 0, round, x, -round);
                        run.generate(3, 0, -round, x, round);
                    }
                }
                run.due(3, "figure", 0, 3);
                run.stays(0, "normal", 0);
                run.due(0, "normal", 0);
            }
        }
    }

    private static void normalOf64() {
        Run run = new Run(2, MOVED);
        run.counting(0, 1, 8);
        run.counting(1, 2, 8);
        run.due(64, "meet", 2, 0, 1);
        run.stays(1, "normal", 2);
        Run other = new Run(3, MOVED);
        other.fill(0, 64);
        other.stays(0, "normal", 0);
    }

    private static void normalNone() {
        Run run = new Run(1, "false when there is no such subgroup.");
        run.noSubgroup(0, 0, "normal", 0);
        run.generate(2, 0, 1, 1);
        run.generate(3, 3, 1, 1, 1);
        run.noSubgroup(0, 0, "normal", 0);
        run.stays(1, "normal", 0);
        run.stays(1, "normal", 3);
    }

    /** Subgroups 0 and 3 have the powers of 1 1 and of 1 1 1, 1 and 2 the empty word alone; 1^6, of both, is typed. */
    private static Run twoAndThree(String sentence) {
        Run run = new Run(2, sentence);
        run.generate(2, 0, 1, 1);
        run.generate(3, 3, 1, 1, 1);
        run.type(1, 1, 1, 1, 1, 1);
        return run;
    }
}
