import java.util.List;
import java.util.stream.IntStream;

/** What the tests of boundary cases have in common: the sentence that a test is for, and objects at their limits. */
abstract class Boundaries extends Checks {
    protected static final int[] NO_LETTERS = {-1, 6, 7, -6, 256, MIN, MAX};

    protected static void sentence(String section, String quoted, Runnable test) {
        int before = faults();
        try {
            test.run();
        } catch (RuntimeException thrown) {
            fault("thrown: " + thrown);
        }
        if (faults() > before) {
            System.out.println("so this is broken: " + section + ": " + quoted);
        }
    }

    // ---- Objects to ask ----

    /** Rules of every length, a first word of the full length, actions of every kind: as LIVELY says. */
    protected static GrowthWords lively() {
        GrowthWords words = beginning(0, 1, 2, 3, 4, 5, 3, 0);
        words.rule(0, word(1, 2));
        words.rule(2, 0);
        words.rule(3, word(4, 4, 5));
        words.rule(4, word(0, 5, 1, 0));
        for (int letter = 0; letter < 6; letter++) {
            words.action(letter, (letter + 1) % 4);
        }
        return words;
    }

    /** As lively, but too long from generation 5 on: as OVERGROWN says. */
    protected static GrowthWords overgrown() {
        GrowthWords words = lively();
        words.rule(0, word(0, 0, 0, 0));
        words.begin(word(0, 0, 0, 0));
        return words;
    }

    protected static int[] zeros(int count, int... behind) {
        int[] letters = new int[count + behind.length];
        System.arraycopy(behind, 0, letters, count, behind.length);
        return letters;
    }

    /** Generation 5 is the letter 0 'count' times: the letters 1 to 5 bring in the digits of count, base 4. */
    protected static GrowthWords zerosInGeneration5(int count) {
        GrowthWords words = beginning(zeros(count / 1024, 1));
        words.rule(0, word(0, 0, 0, 0));
        words.rule(1, word(zeros(count / 256 % 4, 2)));
        words.rule(2, word(zeros(count / 64 % 4, 3)));
        words.rule(3, word(zeros(count / 16 % 4, 4)));
        words.rule(4, word(zeros(count / 4 % 4, 5)));
        words.rule(5, word(zeros(count % 4)));
        return words;
    }

    /** Generation 5 has 3000 letters: the letter 5 'turns' times, 1 to 3, and then the letter 0. */
    protected static GrowthWords turnsAndZeros(int turns) {
        GrowthWords words = beginning(1, 0, 0);
        int[] end = zeros(4);
        for (int place = 0; place < turns; place++) {
            end[place] = 5;
        }
        words.rule(0, word(0, 0, 0, 0));
        words.rule(1, word(2, 0, 0, 0));
        words.rule(2, word(3, 0, 0));
        words.rule(3, word(4, 0, 0, 0));
        words.rule(4, word(5, 0));
        words.rule(5, word(end));
        words.action(0, 1);
        return words;
    }

    /** Generation 5 has 3000 letters: the letter 0, and 1 at the last place. */
    protected static GrowthWords zerosAndLast() {
        GrowthWords words = zerosInGeneration5(2999);
        words.rule(5, word(0, 0, 0, 1));
        return words;
    }

    protected static GrowthWords three(int first, int rule0, int rule1, int rule2) {
        GrowthWords words = new GrowthWords();
        words.rule(0, rule0);
        words.rule(1, rule1);
        words.rule(2, rule2);
        words.begin(first);
        return words;
    }

    /** Generation 11 has 1768 letters and generation 12 has 3000. */
    protected static GrowthWords lastFull() {
        return three(word(1, 1, 1, 1, 2, 1, 1), word(2, 0), word(0), word(1, 1));
    }

    /** Generation 11 has 1763 letters and generation 12 has 3001; the last letter brings one too many. */
    protected static GrowthWords lastTooLong() {
        return three(word(0, 0, 0, 2, 0), word(2), word(0), word(2, 1, 1));
    }

    /** Generations 0 and 1 were longer before: 22222222 and that twice; now they are 2 and 3. */
    protected static GrowthWords shortAgain() {
        GrowthWords words = beginning(2, 2, 2, 2, 2, 2, 2, 2);
        words.rule(2, word(2, 2));
        words.begin(word(2));
        words.rule(2, word(3));
        return words;
    }

    // ---- All that an object holds ----

    /** A generation that is too long is null. */
    record State(List<String> rules, String... generations) {
    }

    protected static final State LIVELY = new State(List.of("12", "1", "", "445", "0510", "5"),
        "01234530", "1214450510544512", "1105100510512511250510051051", "1112511212511251511512511212511251",
        "11151115115151151511151151", "11151115115151151511151151", "11151115115151151511151151",
        "11151115115151151511151151", "11151115115151151511151151", "11151115115151151511151151",
        "11151115115151151511151151", "11151115115151151511151151", "11151115115151151511151151");

    protected static final State OVERGROWN = new State(List.of("0000", "1", "", "445", "0510", "5"),
        "0000", "0".repeat(16), "0".repeat(64), "0".repeat(256), "0".repeat(1024),
        null, null, null, null, null, null, null, null);

    interface Look {
        void at(String when, GrowthWords words, int n, String letters);
    }

    /** The first places, and the last. */
    protected static int[] places(String letters) {
        return IntStream.range(0, letters.length()).filter(i -> i < 40 || i == letters.length() - 1).toArray();
    }

    protected static void lookByLetterAt(String when, GrowthWords words, int n, String letters) {
        if (letters == null) {
            due(when + ", generation " + n, words.letterAt(n, 0), -2);
            return;
        }
        for (int place : places(letters)) {
            due(when + ", generation " + n + " at " + place, words.letterAt(n, place), letters.charAt(place) - '0');
        }
        due(when + ", end of generation " + n, words.letterAt(n, letters.length()), -3);
    }

    /** For what letterAt itself may have done, which a second letterAt would do again. */
    protected static void lookByFind(String when, GrowthWords words, int n, String letters) {
        due(when + ", length of generation " + n, words.length(n), letters == null ? -2 : letters.length());
        if (letters == null) {
            return;
        }
        for (int place : places(letters)) {
            int letter = letters.charAt(place) - '0';
            due(when + ", generation " + n + " at " + place, words.find(n, word(letter), place), place);
        }
    }

    /** Goes through generations, actions and rules, and changes what it has gone through: an object is lost to it. */
    protected static void stillIs(State state, String when, GrowthWords words, Look look) {
        for (int letter = 0; letter < 6; letter++) {
            due(when + ", action of " + letter, words.action(letter, 0), (letter + 1) % 4);
        }
        for (int n = 0; n <= 12; n++) {
            look.at(when, words, n, state.generations[n]);
        }
        for (int letter = 0; letter < 6; letter++) {
            words.begin(word(letter));
            look.at(when + ", rule of " + letter, words, 1, state.rules.get(letter));
        }
    }
}
