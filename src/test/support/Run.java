import java.util.ArrayList;
import java.util.Arrays;
import java.util.List;

/** A run of calls on one new object, under the sentence of the document that it tests; a boolean counts 1 or 0. */
final class Run {
    static final int NONE = FoldedGroups.NONE;
    static final int FULL = FoldedGroups.FULL;
    static final int MIN = Integer.MIN_VALUE;
    static final int MAX = Integer.MAX_VALUE;
    static final int MOST_CALLS = 512;

    private static final int[] NO_SUBGROUPS = {-1, 4, MIN, MAX};
    private static final int NOTHING = -1;
    private static final int TYPED = -2;
    private static final int MOST_SHOWN = 40;

    private static int runs = 0;
    private static int wrong = 0;

    private final int letters;
    private final String sentence;
    private final FoldedGroups tested;
    private final List<Call> calls = new ArrayList<>();

    Run(int letters, String sentence) {
        this.letters = letters;
        this.sentence = sentence;
        this.tested = new FoldedGroups(letters);
        runs++;
    }

    /** Ends the program, with exit code 1 if an answer was not the one that is due. */
    static void end() {
        System.out.println(wrong == 0 ? runs + " runs are as due" : wrong + " answers are not as due");
        System.exit(wrong == 0 ? 0 : 1);
    }

    int made() {
        return calls.size();
    }

    void due(int want, String name, int... with) {
        Call call = new Call(name, with.clone());
        calls.add(call);
        if (calls.size() > MOST_CALLS) {
            report("this test makes more than 512 calls: " + call);
        }
        int got = answer(tested, call);
        if (got != want) {
            report(call + " answered " + got + ", due is " + want);
        }
    }

    /** A call that changes nothing: all questions have the same answers before it and after it. */
    void stays(int want, String name, int... with) {
        due(want, name, with);
        compare(NOTHING);
    }

    /** A call that changes the typed word and nothing else. */
    void types(int want, String name, int... with) {
        due(want, name, with);
        compare(TYPED);
    }

    /** A call that changes subgroup d and nothing else. */
    void changes(int d, int want, String name, int... with) {
        due(want, name, with);
        compare(d);
    }

    /** The call, with its argument at a place being no subgroup. */
    void noSubgroup(int want, int place, String name, int... with) {
        for (int no : NO_SUBGROUPS) {
            int[] changed = with.clone();
            changed[place] = no;
            stays(want, name, changed);
        }
    }

    /** A call whose answer is free, but which throws nothing. */
    void free(String name, int... with) {
        answer(tested, new Call(name, with.clone()));
    }

    void type(int... word) {
        Call clear = new Call("clear", new int[0]);
        calls.add(clear);
        answer(tested, clear);
        for (int i = 0; i < word.length; i++) {
            due(i + 1, "letter", word[i]);
        }
    }

    void generate(int want, int s, int... word) {
        type(word);
        due(want, "generate", s);
    }

    void typedIs(int... word) {
        due(0, "at", -1);
        for (int i = 0; i < word.length; i++) {
            due(word[i], "at", i);
        }
        due(0, "at", word.length);
    }

    void figuresAre(int s, int vertices, int edges, int elements, int index) {
        due(vertices, "figure", s, 0);
        due(edges, "figure", s, 1);
        due(elements, "figure", s, 2);
        due(index, "figure", s, 3);
    }

    void elementIs(int s, int k, int... word) {
        due(word.length, "length", s, k);
        due(0, "basis", s, k, -1);
        for (int i = 0; i < word.length; i++) {
            due(word[i], "basis", s, k, i);
        }
        due(0, "basis", s, k, word.length);
    }

    void writtenIs(int s, int... items) {
        due(0, "written", s, -1);
        for (int i = 0; i < items.length; i++) {
            due(items[i], "written", s, i);
        }
        due(0, "written", s, items.length);
    }

    /** Where the letters 1, -1, 2, -2, .. lead from a vertex. */
    void targetsAre(int s, int v, int... targets) {
        for (int n = 0; n < targets.length; n++) {
            due(targets[n], "target", s, v, n % 2 == 0 ? n / 2 + 1 : -(n / 2 + 1));
        }
    }

    /** Three rings at the base that fold nowhere: at least 49 vertices, at most 64. */
    void fill(int s, int vertices) {
        generate(24, s, times(12, 1, 2));
        generate(47, s, times(12, 2, 3));
        generate(vertices, s, ring(vertices - 46, 3, 1));
    }

    /** The words in which letter a, its inverse counting against it, counts a multiple of m: its index is m. */
    void counting(int s, int a, int m) {
        type(power(a, m));
        due(m, "generate", s);
        for (int i = -(m / 2); i <= m / 2; i++) {
            int[] way = power(i < 0 ? -a : a, Math.abs(i));
            int[] back = power(i < 0 ? a : -a, Math.abs(i));
            for (int b = 1; b <= letters; b++) {
                if (b != a) {
                    generate(m, s, put(way, word(b), back));
                }
            }
        }
        due(m, "figure", s, 3);
    }

    static int[] word(int... word) {
        return word;
    }

    static int[] power(int a, int count) {
        int[] word = new int[count];
        Arrays.fill(word, a);
        return word;
    }

    static int[] times(int count, int... part) {
        int[] word = new int[0];
        for (int n = 0; n < count; n++) {
            word = put(word, part);
        }
        return word;
    }

    static int[] put(int[]... parts) {
        return Arrays.stream(parts).flatMapToInt(Arrays::stream).toArray();
    }

    /** A word of a given size that begins with a and ends with b. */
    static int[] ring(int size, int a, int b) {
        int[] pairs = times(size / 2, a, b);
        return size % 2 == 0 ? pairs : put(word(a), pairs);
    }

    private void report(String text) {
        wrong++;
        if (wrong <= MOST_SHOWN) {
            System.out.println("\"" + sentence + "\", " + letters + " letters, call " + calls.size() + ": " + text);
        }
    }

    private int answer(FoldedGroups x, Call call) {
        try {
            return call.on(x);
        } catch (RuntimeException thrown) {
            report(call + " threw " + thrown);
            return MIN;
        }
    }

    /** Asks all that can be asked before the last call and after it, but for what that call may change. */
    private void compare(int changed) {
        Pair pair = new Pair(calls.get(calls.size() - 1));
        for (int i = -1; i <= 24 && changed != TYPED; i++) {
            pair.same("at", i);
        }
        for (int s = 0; s < 4; s++) {
            if (s != changed) {
                compareSubgroup(pair, s, changed);
            }
        }
    }

    private void compareSubgroup(Pair pair, int s, int changed) {
        int vertices = pair.same("figure", s, 0);
        int elements = pair.same("figure", s, 2);
        pair.same("figure", s, 1);
        pair.same("figure", s, 3);
        pair.same("normal", s);
        for (int t = 0; t < 4; t++) {
            if (t != changed) {
                pair.same("contains", s, t);
            }
        }
        for (int v = 0; v <= vertices; v++) {
            for (int x = -letters; x <= letters; x++) {
                pair.same("target", s, v, x);
            }
        }
        for (int k = 0; k <= elements; k++) {
            int size = pair.same("length", s, k);
            for (int i = 0; i <= size; i++) {
                pair.same("basis", s, k, i);
            }
        }
        if (changed != TYPED) {
            pair.same("member", s);
            pair.same("trace", s);
            for (int i = 0; i <= 24; i++) {
                pair.same("written", s, i);
            }
        }
    }

    /** The state before the last call and the one after it. */
    private final class Pair {
        private final Call last;
        private final Asked before = new Asked(calls.size() - 1);
        private final Asked after = new Asked(calls.size());

        Pair(Call last) {
            this.last = last;
        }

        int same(String name, int... with) {
            Call question = new Call(name, with);
            int first = before.ask(question);
            int then = after.ask(question);
            if (first != then) {
                report(last + " changed what " + question + " answers from " + first + " to " + then);
            }
            return first;
        }
    }

    /** The state after the first calls, made again whenever an object has been used for 512 calls. */
    private final class Asked {
        private final int count;
        private FoldedGroups object = null;
        private int used = 0;

        Asked(int count) {
            this.count = count;
        }

        int ask(Call question) {
            if (object == null || used >= MOST_CALLS) {
                object = new FoldedGroups(letters);
                for (Call call : calls.subList(0, count)) {
                    answer(object, call);
                }
                used = count;
            }
            used++;
            return answer(object, question);
        }
    }

    private record Call(String name, int[] with) {
        int on(FoldedGroups x) {
            return switch (name) {
                case "letter" -> x.letter(with[0]);
                case "clear" -> x.clear();
                case "invert" -> x.invert();
                case "at" -> x.at(with[0]);
                case "take" -> x.take(with[0], with[1]);
                case "generate" -> x.generate(with[0]);
                case "drop" -> x.drop(with[0]);
                case "conjugate" -> x.conjugate(with[0], with[1]);
                case "meet" -> x.meet(with[0], with[1], with[2]);
                case "join" -> x.join(with[0], with[1], with[2]);
                case "member" -> x.member(with[0]) ? 1 : 0;
                case "trace" -> x.trace(with[0]);
                case "written" -> x.written(with[0], with[1]);
                case "length" -> x.length(with[0], with[1]);
                case "basis" -> x.basis(with[0], with[1], with[2]);
                case "target" -> x.target(with[0], with[1], with[2]);
                case "figure" -> x.figure(with[0], with[1]);
                case "contains" -> x.contains(with[0], with[1]) ? 1 : 0;
                case "normal" -> x.normal(with[0]) ? 1 : 0;
                default -> throw new IllegalArgumentException("no call: " + name);
            };
        }

        @Override
        public String toString() {
            String list = Arrays.toString(with);
            return name + "(" + list.substring(1, list.length() - 1) + ")";
        }
    }
}
