/** Each promise of DOC.md by hand: ordinary inputs, the edges that it names, and wrong inputs. */
public final class PromisesTest {
    private static final int NONE = FoldedGroups.NONE;
    private static final int FULL = FoldedGroups.FULL;
    private static final int MIN = Integer.MIN_VALUE;
    private static final int MAX = Integer.MAX_VALUE;
    private static final int[] NO_SUBGROUPS = {-1, 4, MIN, MAX};

    private static int wrong = 0;
    private static int promise = 0;

    public static void main(String[] args) {
        promise = 1;
        newObject();
        promise = 2;
        letter();
        promise = 3;
        clear();
        promise = 4;
        invert();
        promise = 5;
        at();
        promise = 6;
        take();
        promise = 7;
        generate();
        promise = 8;
        drop();
        promise = 9;
        conjugate();
        promise = 10;
        meet();
        promise = 11;
        join();
        promise = 12;
        member();
        promise = 13;
        trace();
        promise = 14;
        written();
        promise = 15;
        length();
        promise = 16;
        basis();
        promise = 17;
        target();
        promise = 18;
        figure();
        promise = 19;
        contains();
        promise = 20;
        normal();
        System.out.println(wrong == 0 ? "all promises hold" : wrong + " answers are not as due");
        if (wrong != 0) {
            System.exit(1);
        }
    }

    private static void newObject() {
        int[][] cases = {{MIN, 1}, {-1, 1}, {0, 1}, {1, 1}, {2, 2}, {3, 3}, {4, 3}, {MAX, 3}};
        for (int[] c : cases) {
            FoldedGroups x = new FoldedGroups(c[0]);
            due("no letter is typed", x.at(0), 0);
            due("clear()", x.clear(), 0);
            due("letter(N)", x.letter(c[1]), 1);
            due("letter(N + 1)", x.letter(c[1] + 1), NONE);
            due("letter(-N - 1)", x.letter(-c[1] - 1), NONE);
            for (int s = 0; s < 4; s++) {
                due("figure(s, 0)", x.figure(s, 0), 1);
                due("figure(s, 1)", x.figure(s, 1), 0);
                due("member(s)", x.member(s), false);
            }
        }
    }

    private static void letter() {
        FoldedGroups x = new FoldedGroups(2);
        due("letter(1)", x.letter(1), 1);
        due("letter(1)", x.letter(1), 2);
        due("letter(-2)", x.letter(-2), 3);
        due("letter(2)", x.letter(2), 2);
        due("letter(-1)", x.letter(-1), 1);
        due("letter(-1)", x.letter(-1), 0);
        due("letter(-1)", x.letter(-1), 1);
        for (int no : new int[] {0, 3, -3, MIN, MAX}) {
            due("letter(" + no + ")", x.letter(no), NONE);
        }
        dueTyped(x, -1);
        for (int n = 2; n <= 24; n++) {
            due("letter(-1)", x.letter(-1), n);
        }
        due("letter(-1) as the 25th", x.letter(-1), FULL);
        due("letter(2) as the 25th", x.letter(2), FULL);
        due("letter(3) beside 24", x.letter(3), NONE);
        due("at(23)", x.at(23), -1);
        due("letter(1) takes one away", x.letter(1), 23);
        due("letter(2) again", x.letter(2), 24);
        due("letter(-2)", x.letter(-2), 23);
    }

    private static void clear() {
        FoldedGroups x = new FoldedGroups(1);
        due("clear()", x.clear(), 0);
        type(x, 1, 1, 1);
        due("clear()", x.clear(), 3);
        due("clear()", x.clear(), 0);
        due("at(0)", x.at(0), 0);
        due("letter(-1)", x.letter(-1), 1);
    }

    private static void invert() {
        FoldedGroups x = new FoldedGroups(3);
        due("invert()", x.invert(), 0);
        type(x, 1, 2, -3);
        due("invert()", x.invert(), 3);
        dueTyped(x, 3, -2, -1);
        type(x, 1, 2);
        due("invert()", x.invert(), 2);
        dueTyped(x, -2, -1);
        due("invert()", x.invert(), 2);
        dueTyped(x, 1, 2);
        type(x, -3);
        due("invert()", x.invert(), 1);
        dueTyped(x, 3);
    }

    private static void at() {
        FoldedGroups x = new FoldedGroups(3);
        due("at(0)", x.at(0), 0);
        type(x, 1, -3, 2, 2);
        due("at(0)", x.at(0), 1);
        due("at(1)", x.at(1), -3);
        due("at(3)", x.at(3), 2);
        for (int no : new int[] {4, 23, 24, 25, -1, MIN, MAX}) {
            due("at(" + no + ")", x.at(no), 0);
        }
        x.letter(-2);
        due("at(3) when taken away", x.at(3), 0);
    }

    private static void take() {
        FoldedGroups x = new FoldedGroups(2);
        generate(x, 0, 1, 1, 2);
        generate(x, 0, 2, 1);
        due("take(0, 1)", x.take(0, 1), 3);
        dueTyped(x, 1, 1, 2);
        due("take(0, 0)", x.take(0, 0), 2);
        dueTyped(x, 2, 1);
        for (int no : new int[] {2, -1, MIN, MAX}) {
            due("take(0, " + no + ")", x.take(0, no), NONE);
        }
        due("take(1, 0) of the empty word alone", x.take(1, 0), NONE);
        for (int no : NO_SUBGROUPS) {
            due("take(" + no + ", 0)", x.take(no, 0), NONE);
        }
        dueTyped(x, 2, 1);
        // 2^10 1 2^-10 has 21 letters, moved by 2^-2 it has 25
        generate(x, 1, 2, 2, 2, 2, 2, 2, 2, 2, 2, 2, 1, -2, -2, -2, -2, -2, -2, -2, -2, -2, -2);
        type(x, -2, -2);
        due("conjugate(2, 1)", x.conjugate(2, 1), 13);
        due("length(2, 0)", x.length(2, 0), 25);
        due("take(2, 0) of 25 letters", x.take(2, 0), FULL);
        dueTyped(x, -2, -2);
        due("take(1, 0)", x.take(1, 0), 21);
        due("at(10)", x.at(10), 1);
        due("at(20)", x.at(20), -2);
        due("at(21)", x.at(21), 0);
        typePower(x, 1, 24);
        x.generate(3);
        due("take(3, 0) of 24 letters", x.take(3, 0), 24);
    }

    private static void generate() {
        FoldedGroups x = new FoldedGroups(2);
        due("generate(0) by the empty word", x.generate(0), 1);
        due("no edge", x.figure(0, 1), 0);
        due("generate(0)", generate(x, 0, 1, 2, -1), 2);
        due("target(0, 0, 1)", x.target(0, 0, 1), 1);
        due("target(0, 1, 2)", x.target(0, 1, 2), 1);
        due("target(0, 1, -1)", x.target(0, 1, -1), 0);
        due("generate(0) by one of its words", generate(x, 0, 1, 2, 2, 2, -1), 2);
        due("generate(0)", generate(x, 0, 1), 1);
        due("figure(0, 3)", x.figure(0, 3), 1);
        due("generate(3) by 1^6", generate(x, 3, 1, 1, 1, 1, 1, 1), 6);
        due("generate(3) by 1^4", generate(x, 3, 1, 1, 1, 1), 2);
        dueTyped(x, 1, 1, 1, 1);
        due("others stay", x.figure(1, 0), 1);
        for (int no : NO_SUBGROUPS) {
            due("generate(" + no + ")", x.generate(no), NONE);
        }
        generateTo64();
    }

    private static void generateTo64() {
        FoldedGroups x = new FoldedGroups(3);
        fill64(x, 0);
        due("figure(0, 0)", x.figure(0, 0), 64);
        due("figure(0, 1)", x.figure(0, 1), 66);
        type(x, 1, 2);
        due("generate(0) with 65 before it is folded", x.generate(0), FULL);
        due("figure(0, 0) as before", x.figure(0, 0), 64);
        due("member(0) as before", x.member(0), false);
        due("generate(0) by the empty word", generate(x, 0), 64);
        due("figure(0, 2)", x.figure(0, 2), 3);
        // the ring by 1 makes the two neighbours by 1 and -1 the base, and by that two pairs of theirs one each
        due("generate(0) with 64 before it is folded", generate(x, 0, 1), 60);
    }

    private static void drop() {
        FoldedGroups x = new FoldedGroups(2);
        generate(x, 1, 1, 2, 1);
        generate(x, 2, 2, 2);
        due("drop(1)", x.drop(1), 3);
        due("figure(1, 0)", x.figure(1, 0), 1);
        due("figure(1, 1)", x.figure(1, 1), 0);
        due("figure(1, 2)", x.figure(1, 2), 0);
        due("target(1, 0, 1)", x.target(1, 0, 1), NONE);
        due("length(1, 0)", x.length(1, 0), NONE);
        due("drop(1)", x.drop(1), 1);
        due("others stay", x.figure(2, 0), 2);
        dueTyped(x, 2, 2);
        for (int no : NO_SUBGROUPS) {
            due("drop(" + no + ")", x.drop(no), NONE);
        }
        due("generate(1) after drop(1)", generate(x, 1, 2), 1);
        due("written(1, 0)", x.written(1, 0), 1);
    }

    private static void conjugate() {
        FoldedGroups x = new FoldedGroups(3);
        generate(x, 0, 1, 1, 1);
        type(x, 2, 3);
        due("conjugate(1, 0)", x.conjugate(1, 0), 5);
        dueElement(x, 1, 0, -3, -2, 1, 1, 1, 2, 3);
        due("s stays", x.figure(0, 0), 3);
        x.invert();
        due("conjugate(1, 1) back, with the row trimmed", x.conjugate(1, 1), 3);
        dueElement(x, 1, 0, 1, 1, 1);
        type(x, 1);
        due("conjugate(2, 0) along its ring", x.conjugate(2, 0), 3);
        type(x, 3, 3, 3);
        due("conjugate(1, 3) of the empty word alone", x.conjugate(1, 3), 1);
        due("figure(1, 1)", x.figure(1, 1), 0);
        x.clear();
        due("conjugate(1, 0) by the empty word", x.conjugate(1, 0), 3);
        for (int no : NO_SUBGROUPS) {
            due("conjugate(" + no + ", 0)", x.conjugate(no, 0), NONE);
            due("conjugate(0, " + no + ")", x.conjugate(0, no), NONE);
        }
        generate(x, 3, 1, 2, 1, -2);
        type(x, 1, 2);
        due("conjugate(3, 3) turns the ring", x.conjugate(3, 3), 4);
        dueElement(x, 3, 0, 1, -2, 1, 2);
        conjugateTo64();
    }

    private static void conjugateTo64() {
        FoldedGroups x = new FoldedGroups(3);
        fill64(x, 0);
        type(x, 1);
        due("conjugate(1, 0) with 65 before it is folded", x.conjugate(1, 0), FULL);
        due("figure(1, 0) as before", x.figure(1, 0), 1);
        due("conjugate(9, 0)", x.conjugate(9, 0), NONE);
        x.clear();
        due("conjugate(1, 0) with 64", x.conjugate(1, 0), 64);
        typePower(x, 1, 24);
        x.drop(2);
        x.generate(2);
        typePower(x, 2, 24);
        due("conjugate(2, 2)", x.conjugate(2, 2), 48);
        typePower(x, 2, 17);
        due("conjugate(2, 2) with 65", x.conjugate(2, 2), FULL);
        due("conjugate(2, 2) as before", x.figure(2, 0), 48);
        typePower(x, 2, 16);
        due("conjugate(2, 2) with 64", x.conjugate(2, 2), 64);
        due("length(2, 0)", x.length(2, 0), 24 + 2 * 40);
    }

    private static void meet() {
        FoldedGroups x = new FoldedGroups(1);
        generatePower(x, 0, 1, 8);
        generatePower(x, 1, 1, 7);
        generatePower(x, 2, 1, 9);
        due("meet(3, 0, 2) of 72 pairs", x.meet(3, 0, 2), FULL);
        due("figure(3, 0) as before", x.figure(3, 0), 1);
        due("meet(3, 0, 1) of 56 pairs", x.meet(3, 0, 1), 56);
        due("length(3, 0)", x.length(3, 0), 56);
        due("meet(0, 0, 0)", x.meet(0, 0, 0), 8);
        due("meet(0, 0, 1) into one of them", x.meet(0, 0, 1), 56);
        x.drop(2);
        due("meet(1, 1, 2) with the empty word alone", x.meet(1, 1, 2), 1);
        due("figure(1, 1)", x.figure(1, 1), 0);
        for (int no : NO_SUBGROUPS) {
            due("meet(" + no + ", 0, 0)", x.meet(no, 0, 0), NONE);
            due("meet(0, " + no + ", 0)", x.meet(0, no, 0), NONE);
            due("meet(0, 0, " + no + ")", x.meet(0, 0, no), NONE);
        }
        due("figure(0, 0) as before", x.figure(0, 0), 56);
        meetOfTrees();
        meetOf64();
    }

    /** The pairs are three rows along a row: no ring, so that all but the base is trimmed. */
    private static void meetOfTrees() {
        FoldedGroups x = new FoldedGroups(3);
        generate(x, 0, 1);
        generate(x, 0, 2, 1, -2);
        generate(x, 0, 2, 2, 1, -2, -2);
        due("figure(0, 0)", x.figure(0, 0), 3);
        for (int s = 1; s <= 2; s++) {
            generate(x, s, 2);
            typePower(x, 1, 19 + s);
            x.letter(3);
            x.generate(s);
        }
        due("meet(3, 0, 1) of 63 pairs", x.meet(3, 0, 1), 1);
        due("figure(3, 1)", x.figure(3, 1), 0);
        due("meet(3, 0, 2) of 66 pairs before it is trimmed", x.meet(3, 0, 2), FULL);
        due("meet(3, 2, 0)", x.meet(3, 2, 0), FULL);
    }

    private static void meetOf64() {
        FoldedGroups x = new FoldedGroups(2);
        countingGroup(x, 2, 0, 1, 8);
        countingGroup(x, 2, 1, 2, 8);
        due("figure(0, 3)", x.figure(0, 3), 8);
        due("meet(2, 0, 1) of 64 pairs", x.meet(2, 0, 1), 64);
        due("figure(2, 3)", x.figure(2, 3), 64);
        due("figure(2, 2)", x.figure(2, 2), 65);
        due("normal(2)", x.normal(2), true);
        due("contains(0, 2)", x.contains(0, 2), true);
        due("contains(2, 0)", x.contains(2, 0), false);
        FoldedGroups y = new FoldedGroups(2);
        countingGroup(y, 2, 0, 1, 5);
        countingGroup(y, 2, 1, 2, 13);
        due("meet(0, 0, 1) of 65 pairs", y.meet(0, 0, 1), FULL);
        due("figure(0, 0) as before", y.figure(0, 0), 5);
    }

    private static void join() {
        FoldedGroups x = new FoldedGroups(2);
        generate(x, 0, 1, 1, 1, 1);
        generate(x, 1, 1, 1, 1, 1, 1, 1);
        due("join(2, 0, 1)", x.join(2, 0, 1), 2);
        dueElement(x, 2, 0, 1, 1);
        due("x stays", x.figure(0, 0), 4);
        generate(x, 3, 2, 2);
        due("join(3, 3, 0) into one of them", x.join(3, 3, 0), 5);
        dueElement(x, 3, 0, 2, 2);
        dueElement(x, 3, 1, 1, 1, 1, 1);
        x.drop(2);
        due("join(2, 2, 0) with the empty word alone", x.join(2, 2, 0), 4);
        due("join(2, 2, 2)", x.join(2, 2, 2), 4);
        for (int no : NO_SUBGROUPS) {
            due("join(" + no + ", 0, 0)", x.join(no, 0, 0), NONE);
            due("join(0, " + no + ", 0)", x.join(0, no, 0), NONE);
            due("join(0, 0, " + no + ")", x.join(0, 0, no), NONE);
        }
        joinTo64();
        joinOfMostEdges();
    }

    private static void joinTo64() {
        FoldedGroups x = new FoldedGroups(3);
        fill64(x, 0);
        due("join(1, 0, 1) with 64", x.join(1, 0, 1), 64);
        generate(x, 2, 1);
        due("join(3, 0, 2) with 64", x.join(3, 0, 2), 60);
        generate(x, 2, 2, 2);
        due("join(3, 0, 2) with 65 before it is folded", x.join(3, 0, 2), FULL);
        due("join(3, 2, 0)", x.join(3, 2, 0), FULL);
        due("join(0, 0, 0) of two copies", x.join(0, 0, 0), FULL);
        due("figure(3, 0) as before", x.figure(3, 0), 60);
    }

    /** 64 vertices with all their ways, and a ring or another graph beside them. */
    private static void joinOfMostEdges() {
        FoldedGroups x = new FoldedGroups(3);
        countingGroup(x, 3, 0, 1, 8);
        countingGroup(x, 3, 1, 2, 8);
        due("meet(0, 0, 1)", x.meet(0, 0, 1), 64);
        due("figure(0, 1)", x.figure(0, 1), 192);
        x.drop(2);
        due("join(2, 0, 2)", x.join(2, 0, 2), 64);
        type(x, 2);
        due("generate(2) with 193 edges", x.generate(2), 8);
        due("figure(2, 3)", x.figure(2, 3), 8);
        x.drop(1);
        generate(x, 1, 3);
        generate(x, 1, 2);
        generate(x, 1, 1);
        due("join(3, 1, 0) with 195 edges", x.join(3, 1, 0), 1);
        due("join(3, 0, 1) with 195 edges", x.join(3, 0, 1), 1);
        x.drop(1);
        generate(x, 1, 1);
        due("join(3, 0, 1) with 193 edges", x.join(3, 0, 1), 8);
    }

    private static void member() {
        FoldedGroups x = new FoldedGroups(2);
        due("the empty word", x.member(0), true);
        generate(x, 0, 1, 2);
        due("1 2", x.member(0), true);
        type(x, -2, -1);
        due("-2 -1", x.member(0), true);
        type(x, 1, 2, 1, 2);
        due("1 2 1 2", x.member(0), true);
        type(x, 2, 1);
        due("2 1", x.member(0), false);
        type(x, 1);
        due("1, which leads to another vertex", x.member(0), false);
        due("1 of the empty word alone", x.member(1), false);
        x.clear();
        for (int no : NO_SUBGROUPS) {
            due("member(" + no + ")", x.member(no), false);
        }
    }

    private static void trace() {
        FoldedGroups x = new FoldedGroups(2);
        due("the empty word", x.trace(0), 0);
        generate(x, 0, 1, 1, 2);
        due("1 1 2", x.trace(0), 0);
        type(x, 1);
        due("1", x.trace(0), 1);
        type(x, -2);
        due("-2", x.trace(0), 2);
        type(x, 1, 1);
        due("1 1", x.trace(0), 2);
        type(x, 2);
        due("2", x.trace(0), NONE);
        type(x, 2, 1, 1);
        due("2 1 1", x.trace(0), NONE);
        due("trace(1)", x.trace(1), NONE);
        x.clear();
        for (int no : NO_SUBGROUPS) {
            due("trace(" + no + ")", x.trace(no), NONE);
        }
    }

    private static void written() {
        FoldedGroups x = new FoldedGroups(2);
        generate(x, 0, 1, 1);
        generate(x, 0, 2, 2);
        generate(x, 0, 1, 2);
        // the tree goes by 1 to vertex 1; the basis is 2 -1, 1 1, 1 2
        dueElement(x, 0, 0, 2, -1);
        dueElement(x, 0, 1, 1, 1);
        dueElement(x, 0, 2, 1, 2);
        type(x, 2, 1, 1, -2);
        dueWritten(x, 0, 1, 2, -1);
        type(x, 2, 2, 2, 2);
        dueWritten(x, 0, 1, 3, 1, 3);
        x.invert();
        dueWritten(x, 0, -3, -1, -3, -1);
        type(x, -1, -1);
        dueWritten(x, 0, -2);
        type(x, 2, 2, 2);
        dueWritten(x, 0);
        x.clear();
        dueWritten(x, 0);
        dueWritten(x, 1);
        type(x, 1, 1);
        for (int no : NO_SUBGROUPS) {
            due("written(" + no + ", 0)", x.written(no, 0), 0);
        }
        generate(x, 2, 1);
        typePower(x, -1, 24);
        for (int i = 0; i < 24; i++) {
            due("written(2, " + i + ")", x.written(2, i), -1);
        }
        due("written(2, 24)", x.written(2, 24), 0);
    }

    private static void length() {
        FoldedGroups x = new FoldedGroups(2);
        due("length(0, 0) of the empty word alone", x.length(0, 0), NONE);
        generate(x, 0, 1, 2, 1, -2, -1);
        due("length(0, 0)", x.length(0, 0), 5);
        generate(x, 0, 2);
        due("length(0, 0)", x.length(0, 0), 1);
        due("length(0, 1)", x.length(0, 1), 5);
        for (int no : new int[] {2, -1, MIN, MAX}) {
            due("length(0, " + no + ")", x.length(0, no), NONE);
        }
        for (int no : NO_SUBGROUPS) {
            due("length(" + no + ", 0)", x.length(no, 0), NONE);
        }
    }

    private static void basis() {
        FoldedGroups x = new FoldedGroups(2);
        generate(x, 0, 1, 2, 2, -1);
        generate(x, 0, 2);
        dueElement(x, 0, 0, 2);
        dueElement(x, 0, 1, 1, 2, 2, -1);
        for (int no : new int[] {4, -1, MIN, MAX}) {
            due("basis(0, 1, " + no + ")", x.basis(0, 1, no), 0);
        }
        for (int no : new int[] {2, -1, MIN, MAX}) {
            due("basis(0, " + no + ", 0)", x.basis(0, no, 0), 0);
            due("basis(0, " + no + ", -1)", x.basis(0, no, -1), 0);
        }
        for (int no : NO_SUBGROUPS) {
            due("basis(" + no + ", 0, 0)", x.basis(no, 0, 0), 0);
        }
        due("basis(1, 0, 0)", x.basis(1, 0, 0), 0);
    }

    private static void target() {
        FoldedGroups x = new FoldedGroups(2);
        generate(x, 0, 2, 1, 1, 1);
        // the base leads by -1 to 1 and by 2 to 2; these lead to 3
        due("target(0, 0, 1)", x.target(0, 0, 1), NONE);
        due("target(0, 0, -1)", x.target(0, 0, -1), 1);
        due("target(0, 0, 2)", x.target(0, 0, 2), 2);
        due("target(0, 0, -2)", x.target(0, 0, -2), NONE);
        due("target(0, 1, 1)", x.target(0, 1, 1), 0);
        due("target(0, 1, -1)", x.target(0, 1, -1), 3);
        due("target(0, 2, 1)", x.target(0, 2, 1), 3);
        due("target(0, 2, -2)", x.target(0, 2, -2), 0);
        due("target(0, 3, 1)", x.target(0, 3, 1), 1);
        due("target(0, 3, 2)", x.target(0, 3, 2), NONE);
        for (int no : new int[] {4, 63, 64, -1, MIN, MAX}) {
            due("target(0, " + no + ", 1)", x.target(0, no, 1), NONE);
        }
        for (int no : new int[] {0, 3, -3, 4, MIN, MAX}) {
            due("target(0, 1, " + no + ")", x.target(0, 1, no), NONE);
        }
        for (int no : NO_SUBGROUPS) {
            due("target(" + no + ", 0, 1)", x.target(no, 0, 1), NONE);
        }
    }

    private static void figure() {
        FoldedGroups x = new FoldedGroups(2);
        dueFigures(x, 0, 1, 0, 0, 0);
        generate(x, 0, 1, 1);
        dueFigures(x, 0, 2, 2, 1, 0);
        generate(x, 0, 2);
        dueFigures(x, 0, 2, 3, 2, 0);
        generate(x, 0, 1, 2, -1);
        dueFigures(x, 0, 2, 4, 3, 2);
        generate(x, 0, 1);
        dueFigures(x, 0, 1, 2, 2, 1);
        for (int no : new int[] {4, -1, MIN, MAX}) {
            due("figure(0, " + no + ")", x.figure(0, no), NONE);
        }
        for (int no : NO_SUBGROUPS) {
            due("figure(" + no + ", 0)", x.figure(no, 0), NONE);
            due("figure(" + no + ", 3)", x.figure(no, 3), NONE);
        }
    }

    private static void contains() {
        FoldedGroups x = new FoldedGroups(2);
        generate(x, 0, 1, 1);
        generate(x, 1, 1, 1, 1, 1);
        generate(x, 2, 1, 1);
        generate(x, 2, 2);
        due("contains(0, 1)", x.contains(0, 1), true);
        due("contains(1, 0)", x.contains(1, 0), false);
        due("contains(2, 0)", x.contains(2, 0), true);
        due("contains(0, 2)", x.contains(0, 2), false);
        due("contains(0, 3)", x.contains(0, 3), true);
        due("contains(3, 0)", x.contains(3, 0), false);
        due("contains(3, 3)", x.contains(3, 3), true);
        due("contains(2, 2)", x.contains(2, 2), true);
        // both vertices are there, but 2 is a ring in one and leads across in the other
        generate(x, 3, 1, 1);
        generate(x, 3, 1, 2);
        due("contains(2, 3)", x.contains(2, 3), false);
        due("contains(3, 2)", x.contains(3, 2), false);
        for (int no : NO_SUBGROUPS) {
            due("contains(" + no + ", 0)", x.contains(no, 0), false);
            due("contains(0, " + no + ")", x.contains(0, no), false);
            due("contains(" + no + ", " + no + ")", x.contains(no, no), false);
        }
    }

    private static void normal() {
        FoldedGroups x = new FoldedGroups(2);
        due("the empty word alone", x.normal(0), true);
        generate(x, 0, 1);
        due("1, without an index", x.normal(0), false);
        generate(x, 0, 2);
        due("all words", x.normal(0), true);
        countingGroup(x, 2, 1, 1, 3);
        due("words in which 1 counts 3, 6, ..", x.normal(1), true);
        // index 3: 1 changes vertices 0 and 1, and 2 changes 0 and 2
        generate(x, 2, 1, 1);
        generate(x, 2, 2, 2);
        generate(x, 2, 1, 2, -1);
        generate(x, 2, 2, 1, -2);
        due("figure(2, 3)", x.figure(2, 3), 3);
        due("index 3 without turning", x.normal(2), false);
        // index 3: 1 is a ring at vertex 0 and changes the others, 2 goes round
        generate(x, 3, 1);
        generate(x, 3, 2, 2, 2);
        generate(x, 3, 2, 1, 2);
        generate(x, 3, -2, 1, -2);
        due("figure(3, 3)", x.figure(3, 3), 3);
        due("index 3, where 2 goes round", x.normal(3), false);
        x.drop(3);
        generate(x, 3, 2);
        generate(x, 3, 1, 1, 1);
        generate(x, 3, 1, 2, 1);
        generate(x, 3, -1, 2, -1);
        due("figure(3, 3)", x.figure(3, 3), 3);
        due("index 3, where 1 goes round", x.normal(3), false);
        for (int no : NO_SUBGROUPS) {
            due("normal(" + no + ")", x.normal(no), false);
        }
        FoldedGroups y = new FoldedGroups(1);
        generate(y, 0, 1, 1, 1, 1);
        due("1^4 of one letter", y.normal(0), true);
    }

    /** 64 vertices: three rings of 24, 24 and 18 edges at the base, which has all six ways. */
    private static void fill64(FoldedGroups x, int s) {
        int[][] rings = {{1, 2, 12}, {2, 3, 12}, {3, 1, 9}};
        int[] sizes = {24, 47, 64};
        for (int r = 0; r < 3; r++) {
            x.clear();
            for (int n = 0; n < rings[r][2]; n++) {
                x.letter(rings[r][0]);
                x.letter(rings[r][1]);
            }
            due("a ring more", x.generate(s), sizes[r]);
        }
    }

    /** The words in which letter a counts, its inverse against it, a multiple of m. */
    private static void countingGroup(FoldedGroups x, int letters, int s, int a, int m) {
        generatePower(x, s, a, m);
        for (int i = -(m / 2); i <= m / 2; i++) {
            for (int b = 1; b <= letters; b++) {
                if (b != a) {
                    typeMoved(x, i < 0 ? -a : a, Math.abs(i), b);
                    x.generate(s);
                }
            }
        }
    }

    private static void typeMoved(FoldedGroups x, int a, int times, int b) {
        typePower(x, a, times);
        x.letter(b);
        for (int n = 0; n < times; n++) {
            x.letter(-a);
        }
    }

    private static int generate(FoldedGroups x, int s, int... word) {
        type(x, word);
        return x.generate(s);
    }

    private static void generatePower(FoldedGroups x, int s, int a, int times) {
        typePower(x, a, times);
        x.generate(s);
    }

    private static void type(FoldedGroups x, int... word) {
        x.clear();
        for (int a : word) {
            x.letter(a);
        }
    }

    private static void typePower(FoldedGroups x, int a, int times) {
        x.clear();
        for (int n = 0; n < times; n++) {
            x.letter(a);
        }
    }

    private static void dueTyped(FoldedGroups x, int... word) {
        for (int i = 0; i <= word.length; i++) {
            due("at(" + i + ")", x.at(i), i < word.length ? word[i] : 0);
        }
    }

    private static void dueElement(FoldedGroups x, int s, int k, int... word) {
        due("length(" + s + ", " + k + ")", x.length(s, k), word.length);
        for (int i = -1; i <= word.length; i++) {
            int letter = i >= 0 && i < word.length ? word[i] : 0;
            due("basis(" + s + ", " + k + ", " + i + ")", x.basis(s, k, i), letter);
        }
    }

    private static void dueWritten(FoldedGroups x, int s, int... items) {
        for (int i = -1; i <= items.length; i++) {
            int item = i >= 0 && i < items.length ? items[i] : 0;
            due("written(" + s + ", " + i + ")", x.written(s, i), item);
        }
        due("written(" + s + ", MIN)", x.written(s, MIN), 0);
        due("written(" + s + ", MAX)", x.written(s, MAX), 0);
    }

    private static void dueFigures(FoldedGroups x, int s, int... figures) {
        for (int what = 0; what < 4; what++) {
            due("figure(" + s + ", " + what + ")", x.figure(s, what), figures[what]);
        }
    }

    private static void due(String what, boolean got, boolean want) {
        due(what, got ? 1 : 0, want ? 1 : 0);
    }

    private static void due(String what, int got, int want) {
        if (got != want) {
            wrong++;
            System.out.println("promise " + promise + ": " + what + " answered " + got + ", due is " + want);
        }
    }
}
