import java.util.ArrayDeque;
import java.util.ArrayList;
import java.util.Deque;
import java.util.HashSet;
import java.util.List;
import java.util.Map;
import java.util.Random;
import java.util.Set;
import java.util.TreeMap;
import java.util.TreeSet;
import java.util.function.ToIntFunction;

/**
 * What words the subgroups have, found by putting words together alone, without a graph. A word is a text here: a, b
 * and c are the letters 1, 2 and 3, and A, B and C their inverses.
 */
public final class MeaningTest {
    private static final int RUNS = 180;
    private static final int MOST_CALLS = 512;
    private static final int MOST_WRONG = 20;

    /** The longest words that are looked at, by the number of letters. */
    private static final int[] LONGEST = {0, 12, 5, 4};

    private static int wrong = 0;
    private static final Map<String, Integer> met = new TreeMap<>();

    public static void main(String[] args) {
        for (int seed = 0; seed < RUNS && wrong < MOST_WRONG; seed++) {
            new MeaningTest(seed).play();
        }
        System.out.println("the runs met: " + met);
        // what the runs never met they say nothing about
        for (String what : List.of("contained", "not contained", "index", "normal", "not normal", "meeting", "moved")) {
            if (met.getOrDefault(what, 0) < 10) {
                wrong++;
                System.out.println("the runs met this too seldom: " + what);
            }
        }
        System.out.println(wrong == 0 ? "all words are as due" : wrong + " things are not as due");
        System.exit(wrong == 0 ? 0 : 1);
    }

    private final int seed;
    private final int letters;
    private final int longest;
    private final Random random;
    private final String[] alphabet;
    private final List<String> words = new ArrayList<>();
    private final List<Step> steps = new ArrayList<>();
    private FoldedGroups object;
    private int used;

    private MeaningTest(int seed) {
        this.seed = seed;
        this.letters = 1 + seed % 3;
        this.longest = LONGEST[letters];
        this.random = new Random(seed);
        this.alphabet = "aAbBcC".substring(0, 2 * letters).split("");
        addWords("");
        makeObject();
    }

    private void addWords(String word) {
        words.add(word);
        if (word.length() < longest) {
            for (String x : alphabet) {
                String longer = together(word, x);
                if (longer.length() > word.length()) {
                    addWords(longer);
                }
            }
        }
    }

    private void play() {
        // moved by a letter, these words are still not too long to be looked at
        Set<String> left = generators(longest - 2);
        Set<String> right = generators(longest);
        generate(0, left);
        generate(1, right);
        Set<String> leftWords = subgroup(left);
        Set<String> rightWords = subgroup(right);
        wordsAre("generate", 0, leftWords);
        wordsAre("generate", 1, rightWords);
        containing(0, 1, leftWords, right);
        containing(1, 0, rightWords, left);
        normal(left, leftWords);
        cosets(leftWords);
        basis(0, leftWords);
        basis(1, rightWords);
        meet(leftWords, rightWords);
        join(left, right);
        conjugate(left);
    }

    private Set<String> generators(int size) {
        Set<String> chosen = new TreeSet<>();
        for (int n = 1 + random.nextInt(letters + 1); n > 0; n--) {
            String word = "";
            for (int i = 1 + random.nextInt(size); i > 0; i--) {
                word = together(word, anyLetter());
            }
            chosen.add(word);
        }
        return random.nextInt(4) == 0 ? pairs() : chosen;
    }

    /** They generate the words of an even number of letters, which chosen ones seldom do: index 2, and normal. */
    private Set<String> pairs() {
        Set<String> pairs = new TreeSet<>(words);
        pairs.removeIf(word -> word.length() != 2);
        return pairs;
    }

    private String anyLetter() {
        return alphabet[random.nextInt(alphabet.length)];
    }

    private void generate(int s, Set<String> generators) {
        for (String word : generators) {
            change(word, x -> x.generate(s));
        }
    }

    private void wordsAre(String what, int s, Set<String> due) {
        for (String word : words) {
            int in = ask(word, x -> x.member(s) ? 1 : 0);
            check(what + ": " + word + " in subgroup " + s, in, due.contains(word) ? 1 : 0);
        }
    }

    private void containing(int x, int y, Set<String> wordsOfX, Set<String> generatorsOfY) {
        boolean due = wordsOfX.containsAll(generatorsOfY);
        check("contains(" + x + ", " + y + ")", ask("", f -> f.contains(x, y) ? 1 : 0), due ? 1 : 0);
        note(due ? "contained" : "not contained");
    }

    private void normal(Set<String> generators, Set<String> of) {
        boolean due = true;
        for (String word : generators) {
            for (String x : alphabet) {
                due = due && of.contains(moved(word, x));
            }
        }
        check("normal(0)", ask("", x -> x.normal(0) ? 1 : 0), due ? 1 : 0);
        note(!due ? "not normal" : of.size() < words.size() ? "normal" : "all words are normal");
    }

    /** Two words lead to the same vertex when one of them and the other's inverse, put together, are in it. */
    private void cosets(Set<String> of) {
        Map<String, Integer> vertices = new TreeMap<>();
        for (String word : words) {
            vertices.put(word, ask(word, x -> x.trace(0)));
        }
        for (String u : words) {
            for (String v : words.stream().filter(word -> word.length() <= longest - u.length()).toList()) {
                if (vertices.get(u) != FoldedGroups.NONE) {
                    boolean same = vertices.get(u).equals(vertices.get(v));
                    boolean due = of.contains(together(u, inverse(v)));
                    check("trace(0) of " + u + " and of " + v, same ? 1 : 0, due ? 1 : 0);
                }
            }
        }
        int size = ask("", x -> x.figure(0, 0));
        int index = ask("", x -> x.figure(0, 3));
        if (index != 0) {
            check("figure(0, 3)", index, size);
            check("words that lead nowhere", vertices.containsValue(FoldedGroups.NONE) ? 1 : 0, 0);
            note(index > 1 ? "index" : "all words");
        }
    }

    private void basis(int s, Set<String> of) {
        List<String> elements = new ArrayList<>();
        for (int k = 0; k < ask("", x -> x.figure(s, 2)); k++) {
            elements.add(element(s, k));
        }
        if (elements.stream().allMatch(word -> word.length() <= longest)) {
            check("words of the basis of " + s, subgroup(new TreeSet<>(elements)).equals(of) ? 1 : 0, 1);
        }
        for (String word : of) {
            String product = "";
            int before = 0;
            for (int i = 0; i <= word.length(); i++) {
                int place = i;
                int item = ask(word, x -> x.written(s, place));
                check("items of " + word + " beside their inverses", item != 0 && item == -before ? 1 : 0, 0);
                before = item;
                if (item != 0) {
                    String element = elements.get(Math.abs(item) - 1);
                    product = together(product, item > 0 ? element : inverse(element));
                }
            }
            check("what " + word + " is written as", product.equals(word) ? 1 : 0, 1);
        }
    }

    private String element(int s, int k) {
        StringBuilder word = new StringBuilder();
        for (int i = 0; i < ask("", x -> x.length(s, k)); i++) {
            int place = i;
            int letter = ask("", x -> x.basis(s, k, place));
            word.append((char) (letter > 0 ? 'a' + letter - 1 : 'A' - letter - 1));
        }
        return word.toString();
    }

    private void meet(Set<String> x, Set<String> y) {
        Set<String> both = new TreeSet<>(x);
        both.retainAll(y);
        if (change("", f -> f.meet(2, 0, 1)) != FoldedGroups.FULL) {
            wordsAre("meet", 2, both);
            note(both.size() > 1 ? "meeting" : "meeting in the empty word");
        }
    }

    private void join(Set<String> x, Set<String> y) {
        Set<String> generators = new TreeSet<>(x);
        generators.addAll(y);
        if (change("", f -> f.join(3, 0, 1)) != FoldedGroups.FULL) {
            wordsAre("join", 3, subgroup(generators));
        }
    }

    private void conjugate(Set<String> generators) {
        String by = anyLetter();
        Set<String> moved = new TreeSet<>();
        for (String word : generators) {
            moved.add(moved(word, by));
        }
        change(by, x -> x.conjugate(2, 0));
        wordsAre("conjugate", 2, subgroup(moved));
        note(subgroup(moved).equals(subgroup(generators)) ? "moved to itself" : "moved");
    }

    /**
     * All words of the least subgroup that are not too long. Going through longer ones would find no other: words can
     * be made a basis without making one longer (Nielsen), and a row of its elements grows with each of them.
     */
    private Set<String> subgroup(Set<String> generators) {
        Set<String> found = new HashSet<>(Set.of(""));
        Deque<String> open = new ArrayDeque<>();
        for (String word : generators) {
            addNew(word, found, open);
            addNew(inverse(word), found, open);
        }
        List<String> done = new ArrayList<>();
        while (!open.isEmpty()) {
            String word = open.remove();
            done.add(word);
            for (String other : done) {
                addProduct(word, other, found, open);
                addProduct(other, word, found, open);
            }
        }
        return found;
    }

    private void addProduct(String u, String v, Set<String> found, Deque<String> open) {
        // most products are too long: they are not even made
        if (u.length() + v.length() - 2 * takenAway(u, v) <= longest) {
            addNew(together(u, v), found, open);
        }
    }

    private void addNew(String word, Set<String> found, Deque<String> open) {
        if (word.length() <= longest && found.add(word)) {
            open.add(word);
        }
    }

    private int change(String typed, ToIntFunction<FoldedGroups> call) {
        steps.add(new Step(typed, call));
        return ask(typed, call);
    }

    private int ask(String typed, ToIntFunction<FoldedGroups> call) {
        if (used + typed.length() + 2 > MOST_CALLS) {
            makeObject();
        }
        used += typed.length() + 2;
        return new Step(typed, call).on(object);
    }

    private void makeObject() {
        object = new FoldedGroups(letters);
        used = 0;
        for (Step step : steps) {
            step.on(object);
            used += step.typed.length() + 2;
        }
    }

    private void check(String what, int got, int due) {
        if (got != due) {
            wrong++;
            if (wrong <= MOST_WRONG) {
                System.out.println("seed " + seed + ", " + letters + " letters: " + what + ": " + got
                    + ", due is " + due);
            }
        }
    }

    private static void note(String what) {
        met.merge(what, 1, Integer::sum);
    }

    private static String moved(String word, String by) {
        return together(together(inverse(by), word), by);
    }

    private static String together(String u, String v) {
        int gone = takenAway(u, v);
        return u.substring(0, u.length() - gone) + v.substring(gone);
    }

    /** How many letters of each word go when they are put together. */
    private static int takenAway(String u, String v) {
        int gone = 0;
        while (gone < u.length() && gone < v.length() && u.charAt(u.length() - 1 - gone) == inverse(v.charAt(gone))) {
            gone++;
        }
        return gone;
    }

    private static String inverse(String word) {
        StringBuilder turned = new StringBuilder();
        for (int i = word.length() - 1; i >= 0; i--) {
            turned.append(inverse(word.charAt(i)));
        }
        return turned.toString();
    }

    private static char inverse(char x) {
        return Character.isUpperCase(x) ? Character.toLowerCase(x) : Character.toUpperCase(x);
    }

    /** A call, with the word that is typed before it. */
    private record Step(String typed, ToIntFunction<FoldedGroups> call) {
        int on(FoldedGroups x) {
            x.clear();
            for (char letter : typed.toCharArray()) {
                x.letter(Character.isUpperCase(letter) ? 'A' - letter - 1 : letter - 'a' + 1);
            }
            return call.applyAsInt(x);
        }
    }
}
