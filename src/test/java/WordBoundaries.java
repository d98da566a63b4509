/** The boundary cases that promises 1 to 6 of DOC.md name: a new object and the typed word. */
public final class WordBoundaries {
    private static final int NONE = Run.NONE;
    private static final int FULL = Run.FULL;
    private static final int MIN = Run.MIN;
    private static final int MAX = Run.MAX;

    public static void main(String[] args) {
        leastLetters();
        mostLetters();
        noWordTyped();
        letterSize();
        letterNone();
        letterNoneWhenFull();
        letterFull();
        letterTakesAwayWhenFull();
        clearSize();
        invertSize();
        atFirstAndLast();
        atNone();
        takeSize();
        takeReplaces();
        takeNoSubgroup();
        takeNoElement();
        takeFull();
        Run.end();
    }

    private static void leastLetters() {
        for (int letters : new int[] {MIN, MIN + 1, -3, -2, -1, 0, 1}) {
            hasLetters(letters, 1, "N is letters, but at least 1");
        }
        hasLetters(2, 2, "N is letters, but at least 1");
    }

    private static void mostLetters() {
        hasLetters(2, 2, "N is letters, but .. at most 3");
        for (int letters : new int[] {3, 4, 5, 6, MAX - 1, MAX}) {
            hasLetters(letters, 3, "N is letters, but .. at most 3");
        }
    }

    private static void hasLetters(int letters, int n, String sentence) {
        Run run = new Run(letters, sentence);
        for (int x = 1; x <= 4; x++) {
            run.due(x <= n ? 1 : NONE, "letter", x);
            run.due(x <= n ? 0 : NONE, "letter", -x);
            run.due(x <= n ? 1 : NONE, "letter", -x);
            run.due(x <= n ? 1 : 0, "clear");
        }
        // all words: the index counts the ways by 2 * N letters
        for (int x = 1; x <= n; x++) {
            run.due(0, "figure", 0, 3);
            run.type(x);
            run.due(1, "generate", 0);
        }
        run.figuresAre(0, 1, n, n, 1);
        for (int x = 1; x <= 4; x++) {
            run.due(x <= n ? 0 : NONE, "target", 0, 0, x);
            run.due(x <= n ? 0 : NONE, "target", 0, 0, -x);
        }
    }

    private static void noWordTyped() {
        for (int letters = 0; letters <= 4; letters++) {
            Run run = new Run(letters, "No word is typed (the empty one).");
            run.typedIs();
            run.stays(0, "invert");
            run.stays(0, "clear");
            for (int s = 0; s < 4; s++) {
                run.due(1, "member", s);
                run.due(0, "trace", s);
                run.stays(1, "generate", s);
            }
            run.types(1, "letter", 1);
            run.typedIs(1);
        }
    }

    private static void letterSize() {
        Run run = new Run(2,
            "The typed word is put together with the word of one letter: how many letters it has then.");
        run.types(1, "letter", -1);
        run.types(2, "letter", -1);
        run.types(3, "letter", 2);
        run.types(4, "letter", 1);
        run.typedIs(-1, -1, 2, 1);
        run.types(3, "letter", -1);
        run.types(2, "letter", -2);
        run.types(1, "letter", 1);
        run.types(0, "letter", 1);
        run.types(1, "letter", 1);
        run.typedIs(1);
    }

    private static void letterNone() {
        for (int letters = 1; letters <= 3; letters++) {
            Run run = new Run(letters, "NONE when x is no letter");
            run.type(1, 1);
            run.due(2, "generate", 0);
            run.types(3, "letter", letters);
            run.types(2, "letter", -letters);
            for (int no : new int[] {0, letters + 1, -letters - 1, letters + 2, -letters - 2, MIN, MIN + 1, MAX}) {
                run.stays(NONE, "letter", no);
            }
            run.typedIs(1, 1);
        }
    }

    private static void letterNoneWhenFull() {
        Run run = new Run(2, "NONE when x is no letter");
        run.type(Run.power(2, 24));
        for (int no : new int[] {0, 3, -3, MIN, MAX}) {
            run.stays(NONE, "letter", no);
        }
        run.typedIs(Run.power(2, 24));
    }

    private static void letterFull() {
        for (int letters = 1; letters <= 3; letters++) {
            for (int x : new int[] {letters, -letters}) {
                Run run = new Run(letters, "FULL when it would have 25.");
                run.type(Run.power(x, 22));
                run.types(23, "letter", x);
                run.types(24, "letter", x);
                for (int y = -letters; y <= letters; y++) {
                    if (y != 0 && y != -x) {
                        run.stays(FULL, "letter", y);
                    }
                }
                run.typedIs(Run.power(x, 24));
                run.changes(0, 24, "generate", 0);
            }
        }
    }

    private static void letterTakesAwayWhenFull() {
        Run run = new Run(2, "FULL when it would have 25.");
        run.type(Run.times(12, 1, 2));
        run.types(23, "letter", -2);
        run.types(22, "letter", -1);
        run.types(23, "letter", -1);
        run.types(24, "letter", -1);
        run.stays(FULL, "letter", -1);
        run.types(23, "letter", 1);
        run.typedIs(Run.put(Run.times(11, 1, 2), Run.word(-1)));
    }

    private static void clearSize() {
        for (int size : new int[] {0, 1, 2, 23, 24}) {
            Run run = new Run(2, "The typed word is empty then: how many letters it had.");
            run.type(2, 2);
            run.due(2, "generate", 1);
            run.type(Run.ring(size, 1, 2));
            run.types(size, "clear");
            run.typedIs();
            run.stays(0, "clear");
            run.types(1, "letter", 2);
            run.typedIs(2);
        }
        Run run = new Run(1, "The typed word is empty then: how many letters it had.");
        run.type(Run.power(1, 24));
        run.stays(FULL, "letter", 1);
        run.types(24, "clear");
        run.types(1, "letter", -1);
        run.typedIs(-1);
    }

    private static void invertSize() {
        Run run = new Run(3, "The typed word becomes its inverse: how many letters it has.");
        run.stays(0, "invert");
        run.type(3);
        run.types(1, "invert");
        run.typedIs(-3);
        run.type(1, 2);
        run.types(2, "invert");
        run.typedIs(-2, -1);
        run.type(1, 2, 3);
        run.types(3, "invert");
        run.typedIs(-3, -2, -1);
        run.type(Run.put(Run.power(1, 11), Run.word(2), Run.power(3, 11)));
        run.types(23, "invert");
        run.typedIs(Run.put(Run.power(-3, 11), Run.word(-2), Run.power(-1, 11)));
        run.type(Run.put(Run.power(1, 12), Run.power(-2, 12)));
        run.types(24, "invert");
        run.typedIs(Run.put(Run.power(2, 12), Run.power(-1, 12)));
        run.types(24, "invert");
        run.typedIs(Run.put(Run.power(1, 12), Run.power(-2, 12)));
    }

    private static void atFirstAndLast() {
        Run run = new Run(3, "Letter i (from 0) of the typed word");
        run.type(3);
        run.stays(3, "at", 0);
        run.type(1, -2, 3);
        run.stays(1, "at", 0);
        run.stays(-2, "at", 1);
        run.stays(3, "at", 2);
        run.type(Run.put(Run.power(1, 23), Run.word(-3)));
        run.stays(1, "at", 0);
        run.stays(1, "at", 22);
        run.stays(-3, "at", 23);
    }

    private static void atNone() {
        Run run = new Run(2, "0 when there is none.");
        for (int size : new int[] {0, 1, 2, 23, 24}) {
            run.type(Run.power(-2, size));
            for (int no : new int[] {-1, size, size + 1, 24, 25, MIN, MIN + 24, MAX}) {
                run.stays(0, "at", no);
            }
        }
        // letters that have been taken away are not there any more
        run.due(23, "letter", 2);
        run.due(-2, "at", 22);
        run.due(0, "at", 23);
        run.due(23, "clear");
        run.due(0, "at", 0);
    }

    private static void takeSize() {
        Run run = new Run(2, "The typed word becomes element k of the basis of a subgroup: its length.");
        run.generate(2, 3, 2, 2);
        run.generate(2, 3, 2, 1, -2);
        run.generate(2, 3, 1);
        run.generate(2, 0, 1, 2);
        run.types(1, "take", 3, 0);
        run.typedIs(1);
        run.types(3, "take", 3, 1);
        run.typedIs(2, 1, -2);
        run.types(2, "take", 3, 2);
        run.typedIs(2, 2);
        run.types(2, "take", 0, 0);
        run.typedIs(1, 2);
    }

    private static void takeReplaces() {
        for (int size : new int[] {0, 1, 2, 23, 24}) {
            Run run = new Run(2, "The typed word becomes element k of the basis of a subgroup: its length.");
            run.generate(2, 0, 2, 2);
            run.type(Run.power(-2, size));
            run.types(2, "take", 0, 0);
            run.typedIs(2, 2);
            run.types(3, "letter", 1);
            run.types(4, "letter", 1);
            run.typedIs(2, 2, 1, 1);
        }
    }

    private static void takeNoSubgroup() {
        Run run = new Run(2, "NONE when there is no such subgroup");
        run.generate(2, 0, 1, 1);
        run.generate(2, 3, 2, 2);
        run.type(1, 2, 1);
        run.noSubgroup(NONE, 0, "take", 0, 0);
        run.typedIs(1, 2, 1);
        run.types(2, "take", 0, 0);
        run.types(2, "take", 3, 0);
    }

    private static void takeNoElement() {
        Run run = new Run(2, "NONE when there is no such .. element");
        run.generate(3, 0, 1, 1, 1);
        run.generate(4, 0, 2, 2);
        run.type(2, 1, 2);
        for (int no : new int[] {-1, 2, 3, MIN, MAX}) {
            run.stays(NONE, "take", 0, no);
        }
        for (int no : new int[] {-1, 0, 1, MIN, MAX}) {
            run.stays(NONE, "take", 1, no);
        }
        run.typedIs(2, 1, 2);
        run.types(3, "take", 0, 0);
        run.types(2, "take", 0, 1);
        run.due(4, "drop", 0);
        run.stays(NONE, "take", 0, 0);
        run.stays(NONE, "take", 0, 1);
    }

    private static void takeFull() {
        Run run = new Run(3, "FULL when it has more than 24 letters.");
        run.generate(1, 0, 1);
        run.generate(2, 1, 1, 3);
        run.type(Run.power(-2, 11));
        run.due(13, "conjugate", 1, 1);
        run.due(12, "conjugate", 2, 0);
        run.type(Run.power(-2, 12));
        run.due(13, "conjugate", 3, 0);
        run.due(23, "length", 2, 0);
        run.due(24, "length", 1, 0);
        run.due(25, "length", 3, 0);
        run.types(23, "take", 2, 0);
        run.typedIs(Run.put(Run.power(2, 11), Run.word(1), Run.power(-2, 11)));
        run.stays(FULL, "take", 3, 0);
        run.types(24, "take", 1, 0);
        run.typedIs(Run.put(Run.power(2, 11), Run.word(1, 3), Run.power(-2, 11)));
        run.stays(FULL, "take", 3, 0);
        run.due(24, "clear");
        run.stays(FULL, "take", 3, 0);
        run.typedIs();
        run.type(-2);
        run.due(14, "conjugate", 1, 1);
        run.due(26, "length", 1, 0);
        run.stays(FULL, "take", 1, 0);
        run.stays(NONE, "take", 1, 1);
        run.typedIs(-2);
    }
}
