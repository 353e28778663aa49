import java.util.HashMap;
import java.util.List;
import java.util.Map;

/**
 * One test for each sentence of the document that names a boundary case; the sentence is quoted where its test
 * is listed, at the end of this file. What is due is worked out by hand, but for the numbers of words, which are
 * made from all words there are.
 */
public final class BoundariesTest extends Checks {
    private interface Asked {
        int of(GrowthWords words, int n);
    }

    private record Question(String name, Asked asked, int onNewObject) {
    }

    private interface Call {
        int on(GrowthWords words);
    }

    private record Refusal(String name, Call call, int answer) {
    }

    /** Every question about a generation n, with further arguments that are allowed. */
    private static final List<Question> QUESTIONS = List.of(
        new Question("length", (words, n) -> words.length(n), 1),
        new Question("letterAt", (words, n) -> words.letterAt(n, 0), 0),
        new Question("count", (words, n) -> words.count(n, 0, 0, 1), 1),
        new Question("find", (words, n) -> words.find(n, word(0), 0), 0),
        new Question("occurrences", (words, n) -> words.occurrences(n, word(0)), 1),
        new Question("run", (words, n) -> words.run(n), 1),
        new Question("common, first", (words, n) -> words.common(n, 0), 1),
        new Question("common, second", (words, n) -> words.common(0, n), 1),
        new Question("mirrored", (words, n) -> words.mirrored(n), 1),
        new Question("kinds", (words, n) -> words.kinds(n, 1), 1),
        new Question("point", (words, n) -> words.point(n, 1), ORIGIN),
        new Question("direction", (words, n) -> words.direction(n), 0),
        new Question("extent", (words, n) -> words.extent(n), 0));

    /** Questions that would answer -3 or -4 even where n is right. */
    private static final List<Question> WRONG_QUESTIONS = List.of(
        new Question("letterAt, below 0", (words, n) -> words.letterAt(n, -1), -3),
        new Question("letterAt, too far", (words, n) -> words.letterAt(n, MAX), -3),
        new Question("count, no letter", (words, n) -> words.count(n, 6, 0, 1), -3),
        new Question("find, empty word", (words, n) -> words.find(n, 0, 0), -3),
        new Question("find, no word", (words, n) -> words.find(n, 7, MAX), -3),
        new Question("find, nowhere", (words, n) -> words.find(n, word(5), 0), -4),
        new Question("occurrences, empty word", (words, n) -> words.occurrences(n, 0), -3),
        new Question("occurrences, no word", (words, n) -> words.occurrences(n, 7), -3),
        new Question("kinds, of none", (words, n) -> words.kinds(n, 0), -3),
        new Question("kinds, of 4", (words, n) -> words.kinds(n, 4), -3));

    private static final int[] NO_LETTERS = {-1, 6, 7, -6, 256, MIN, MAX};
    private static final int[] NO_GENERATIONS = {-1, 13, 14, -12, 256, MIN, MAX};

    // ---- Objects to ask ----

    /** Rules of every length, a first word of the full length, actions of every kind. */
    private static GrowthWords lively() {
        GrowthWords words = beginning(0, 1, 2, 3, 4, 5, 3, 0);
        words.rule(0, word(0, 1));
        words.rule(1, word(2));
        words.rule(2, 0);
        words.rule(3, word(3, 4, 5));
        words.rule(4, word(0, 5, 4, 0));
        for (int letter = 0; letter < 6; letter++) {
            words.action(letter, (letter + 1) % 4);
        }
        return words;
    }

    /** As lively, but too long from generation 5 on. */
    private static GrowthWords overgrown() {
        GrowthWords words = lively();
        words.rule(0, word(0, 0, 0, 0));
        words.begin(word(0, 0, 0, 0));
        return words;
    }

    private static int[] zeros(int count, int... behind) {
        int[] letters = new int[count + behind.length];
        System.arraycopy(behind, 0, letters, count, behind.length);
        return letters;
    }

    /** Generation 5 is the letter 0 'count' times: the letters 1 to 5 bring in the digits of count, base 4. */
    private static GrowthWords zerosInGeneration5(int count) {
        GrowthWords words = beginning(zeros(count / 1024, 1));
        words.rule(0, word(0, 0, 0, 0));
        words.rule(1, word(zeros(count / 256 % 4, 2)));
        words.rule(2, word(zeros(count / 64 % 4, 3)));
        words.rule(3, word(zeros(count / 16 % 4, 4)));
        words.rule(4, word(zeros(count / 4 % 4, 5)));
        words.rule(5, word(zeros(count % 4)));
        return words;
    }

    /** Generation 5 has 3000 letters: the letter 5 'turns' times, 1 to 3, and then the letter 0. */
    private static GrowthWords turnsAndZeros(int turns) {
        GrowthWords words = beginning(1, 0, 0);
        int[] end = zeros(4);
        for (int place = 0; place < turns; place++) {
            end[place] = 5;
        }
        words.rule(0, word(0, 0, 0, 0));
        words.rule(1, word(2, 0, 0, 0));
        words.rule(2, word(3, 0, 0));
        words.rule(3, word(4, 0, 0, 0));
        words.rule(4, word(5, 0));
        words.rule(5, word(end));
        words.action(0, 1);
        return words;
    }

    private static GrowthWords three(int first, int rule0, int rule1, int rule2) {
        GrowthWords words = new GrowthWords();
        words.rule(0, rule0);
        words.rule(1, rule1);
        words.rule(2, rule2);
        words.begin(first);
        return words;
    }

    /** Generation 11 has 1768 letters and generation 12 has 3000. */
    private static GrowthWords lastFull() {
        return three(word(1, 1, 1, 1, 2, 1, 1), word(2, 0), word(0), word(1, 1));
    }

    /** Generation 11 has 1763 letters and generation 12 has 3001; the last letter brings one too many. */
    private static GrowthWords lastTooLong() {
        return three(word(0, 0, 0, 2, 0), word(2), word(0), word(2, 1, 1));
    }

    // ---- Two objects that should be alike ----

    private static void alike(String when, Call call, GrowthWords one, GrowthWords other) {
        due(when, call.on(one), call.on(other));
    }

    /** Looks at all that an object holds: generations, rules and actions; some 250 calls that change it. */
    private static void alike(String when, GrowthWords one, GrowthWords other) {
        for (int n = 0; n <= 12; n++) {
            int generation = n;
            for (Question question : QUESTIONS) {
                alike(when + ": " + question.name + " of " + n, words -> question.asked.of(words, generation), one, other);
            }
        }
        for (int place = 0; place < 9; place++) {
            int from = place;
            alike(when + ": first word", words -> words.letterAt(0, from), one, other);
            alike(when + ": generation 1", words -> words.letterAt(1, from), one, other);
        }
        for (int letter = 0; letter < 6; letter++) {
            int first = word(letter);
            int drawn = letter;
            alike(when + ": begin with " + letter, words -> words.begin(first), one, other);
            for (int place = 0; place < 5; place++) {
                int from = place;
                alike(when + ": rule of " + letter, words -> words.letterAt(1, from), one, other);
            }
            alike(when + ": action of " + letter, words -> words.action(drawn, 0), one, other);
        }
    }

    // ---- What it is ----

    private static void lastOfAllCalls() {
        for (Question question : QUESTIONS) {
            due("call 512: " + question.name, question.asked.of(afterCalls(511), 12), question.onNewObject);
        }
        due("call 512: rule", afterCalls(511).rule(5, word(0, 0, 0, 0)), 4);
        due("call 512: begin", afterCalls(511).begin(word(0, 1, 2, 3, 4, 5, 0, 1)), 8);
        due("call 512: action", afterCalls(511).action(5, 3), 2);
        GrowthWords changed = afterCalls(510);
        due("call 511: begin", changed.begin(word(3, 3)), 2);
        due("call 512: the new first word", changed.length(12), 2);
    }

    /** Many changes of all kinds that leave but the action of letter 5 other than it was. */
    private static GrowthWords afterCalls(int calls) {
        GrowthWords words = new GrowthWords();
        for (int call = 4; call < calls; call++) {
            switch (call % 4) {
                case 0 -> words.rule(call % 6, word(5, 4, 3, 2));
                case 1 -> words.begin(word(0, 1, 2, 3, 4, 5, 0, 1));
                case 2 -> words.rule((call - 2) % 6, word((call - 2) % 6));
                default -> words.action(5, 2);
            }
        }
        words.rule(0, word(0));
        words.rule(2, word(2));
        words.rule(4, word(4));
        words.begin(word(0));
        return words;
    }

    // ---- Terms ----

    private static void sixLetters() {
        for (int letter = 0; letter <= 5; letter++) {
            GrowthWords words = beginning(letter);
            holds("letter " + letter, words, 12, letter);
            due("rule of letter " + letter, words.rule(letter, word(letter, letter)), 2);
            due("action of letter " + letter, words.action(letter, 1), 0);
            due("count of letter " + letter, words.count(1, letter, 0, 2), 2);
        }
        for (int letter : new int[] {-1, 6}) {
            GrowthWords words = new GrowthWords();
            due("rule of " + letter, words.rule(letter, word(0)), -1);
            due("action of " + letter, words.action(letter, 0), -1);
            due("count of " + letter, words.count(0, letter, 0, 1), -3);
        }
    }

    private static void ruleOf0To4Letters() {
        for (int letter = 0; letter <= 5; letter++) {
            GrowthWords words = beginning(letter);
            due("4 letters", words.rule(letter, word(5, 0, 5, 1)), 4);
            holds("4 letters", words, 1, 5, 0, 5, 1);
            due("5 letters", words.rule(letter, word(5, 0, 5, 1, 0)), -2);
            holds("after 5 letters", words, 1, 5, 0, 5, 1);
            due("0 letters", words.rule(letter, 0), 0);
            holds("0 letters", words, 1);
        }
    }

    private static void ruleAtFirst() {
        for (int letter = 0; letter <= 5; letter++) {
            GrowthWords words = beginning(letter);
            for (int n = 0; n <= 12; n++) {
                holds("letter " + letter, words, n, letter);
            }
        }
    }

    private static void firstWordOf1To8Letters() {
        GrowthWords words = new GrowthWords();
        holds("at first", words, 0, 0);
        due("8 letters", words.begin(word(5, 0, 4, 1, 3, 2, 5, 5)), 8);
        holds("8 letters", words, 0, 5, 0, 4, 1, 3, 2, 5, 5);
        due("9 letters", words.begin(word(0, 0, 0, 0, 0, 0, 0, 0, 0)), -1);
        due("0 letters", words.begin(0), -1);
        holds("after 9 and 0 letters", words, 0, 5, 0, 4, 1, 3, 2, 5, 5);
        due("1 letter", words.begin(word(5)), 1);
        holds("1 letter", words, 0, 5);
    }

    private static void generation0() {
        GrowthWords words = beginning(0, 1, 2);
        words.rule(0, word(3, 3, 3, 3));
        words.rule(1, 0);
        words.rule(2, word(0));
        holds("rules are not put in", words, 0, 0, 1, 2);
        holds("too long does not reach it", overgrown(), 0, 0, 0, 0, 0);
        holds("vanishing does not reach it", vanishing(), 0, 0, 1, 0);
    }

    private static void nextGeneration() {
        GrowthWords swapped = beginning(0, 1, 1);
        swapped.rule(0, word(1));
        swapped.rule(1, word(0));
        for (int n = 0; n <= 12; n += 2) {
            holds("even", swapped, n, 0, 1, 1);
        }
        for (int n = 1; n <= 11; n += 2) {
            holds("odd", swapped, n, 1, 0, 0);
        }
        GrowthWords first = beginning(2, 0);
        first.rule(2, 0);
        holds("the first letter goes", first, 1, 0);
        GrowthWords last = beginning(0, 2);
        last.rule(2, 0);
        holds("the last letter goes", last, 1, 0);
        GrowthWords none = vanishing();
        for (int n = 1; n <= 12; n++) {
            holds("the empty word stays empty", none, n);
        }
        none.rule(0, word(1, 1));
        holds("no more empty", none, 1, 1, 1, 1, 1);
        holds("empty one later", none, 2);
        holds("empty to the end", none, 12);
    }

    private static void generationsUpTo12() {
        GrowthWords words = new GrowthWords();
        for (int letter = 0; letter < 6; letter++) {
            words.rule(letter, word((letter + 1) % 6));
        }
        for (int n = 0; n <= 12; n++) {
            holds("generation", words, n, n % 6);
        }
        due("length(13)", words.length(13), -1);
        words.begin(word(4));
        holds("after begin", words, 12, 4);
        words.rule(3, word(4, 4));
        holds("after rule", words, 11, 3, 3);
        holds("after rule", words, 12, 4, 4, 4, 4);
    }

    private static void moreThan3000Letters() {
        for (int count : new int[] {2048, 2997, 2998, 2999, 3000}) {
            GrowthWords words = zerosInGeneration5(count);
            due("length(5), " + count, words.length(5), count);
            due("count(5, 0, 0, 3000), " + count, words.count(5, 0, 0, 3000), count);
        }
        for (int count : new int[] {3001, 3002, 3003, 3004, 3072, 4095, 4096, 6000, 7168}) {
            GrowthWords words = zerosInGeneration5(count);
            due("length(4), " + count, words.length(4), count / 4 + 1);
            due("length(5), " + count, words.length(5), -2);
            due("length(6), " + count, words.length(6), -2);
        }
        due("generation 12 of 3000", lastFull().length(12), 3000);
        due("generation 11 of 1763", lastTooLong().length(11), 1763);
        due("generation 12 of 3001", lastTooLong().length(12), -2);
        GrowthWords threeMore = three(word(1, 0, 1, 1, 1), word(2, 2, 0), word(0), word(1));
        due("generation 12 of 3001, 3 for the last letter", threeMore.length(12), -2);
        GrowthWords fourMore = three(word(1, 2, 1, 0, 0, 1), word(1, 1, 2, 1), word(2), word(0));
        due("generation 11 of 1749", fourMore.length(11), 1749);
        due("generation 12 of 3003, 4 for the last letter", fourMore.length(12), -2);
    }

    private static void anyGenerationBefore() {
        GrowthWords words = beginning(0, 0, 0, 0);
        for (int letter = 0; letter < 5; letter++) {
            int next = letter + 1;
            words.rule(letter, word(next, next, next, next));
        }
        words.rule(5, 0);
        for (int n = 0; n <= 4; n++) {
            due("before, length(" + n + ")", words.length(n), 4 << 2 * n);
        }
        for (int n = 5; n <= 12; n++) {
            due("empty behind one of 4096, length(" + n + ")", words.length(n), -2);
        }
        words.begin(word(0, 0));
        due("short enough again, length(5)", words.length(5), 2048);
        for (int n = 6; n <= 12; n++) {
            due("short enough again, length(" + n + ")", words.length(n), 0);
        }
        GrowthWords full = zerosInGeneration5(3000);
        full.rule(0, word(0, 0, 0, 0));
        due("behind one of 3000", full.length(6), -2);
        full.rule(5, word(0));
        due("behind one of 3001", full.length(12), -2);
        full.rule(0, word(0));
        holds("a rule makes all short", full, 1, zeros(5, 2));
        due("a rule makes all short", full.length(12), 13);
    }

    private static void placesFrom0() {
        GrowthWords words = beginning(5, 4, 3);
        due("place 0", words.letterAt(0, 0), 5);
        due("the last place", words.letterAt(0, 2), 3);
        due("find at place 0", words.find(0, word(5), 0), 0);
        due("find at the last place", words.find(0, word(3), 0), 2);
        due("count at place 0", words.count(0, 5, 0, 1), 1);
        due("count at the last place", words.count(0, 3, 2, 3), 1);
    }

    private static void numberOfTheEmptyWord() {
        GrowthWords words = new GrowthWords();
        due("rule", words.rule(0, 0), 0);
        holds("rule", words, 1);
        due("begin", words.begin(0), -1);
        due("find", words.find(0, 0, 0), -3);
        due("occurrences", words.occurrences(0, 0), -3);
    }

    /** For each number of a word of least to most letters, how many letters it has. */
    private static Map<Integer, Integer> lengthsOfWords(int least, int most) {
        Map<Integer, Integer> lengths = new HashMap<>();
        lengths.put(0, 0);
        int[] shorter = {0};
        int weight = 1;
        for (int length = 1; length <= most; length++) {
            int[] longer = new int[6 * shorter.length];
            for (int i = 0; i < longer.length; i++) {
                longer[i] = shorter[i / 6] + weight * (i % 6 + 1);
                lengths.put(longer[i], length);
            }
            shorter = longer;
            weight *= 7;
        }
        lengths.values().removeIf(length -> length < least);
        return lengths;
    }

    private static void numbersOfNoWord() {
        Map<Integer, Integer> rules = lengthsOfWords(0, 4);
        Map<Integer, Integer> firsts = lengthsOfWords(1, 8);
        Map<Integer, Integer> sought = lengthsOfWords(1, 4);
        GrowthWords words = new GrowthWords();
        for (int number = -3000; number <= 120000; number++) {
            if (number % 100 == 0) {
                words = new GrowthWords();
            }
            if (number <= 17000) {
                due("rule(5, " + number + ")", words.rule(5, number), rules.getOrDefault(number, -2));
                int found = sought.containsKey(number) ? -4 : -3;
                due("find(0, " + number + ", 8)", words.find(0, number, 8), found);
                int refused = sought.containsKey(number) ? 0 : -3;
                due("occurrences(0, " + number + ")", Math.min(words.occurrences(0, number), 0), refused);
            }
            due("begin(" + number + ")", words.begin(number), firsts.getOrDefault(number, -1));
        }
        for (int number = 5764801 - 60000; number <= 5764801 + 60000; number++) {
            if (number % 500 == 0) {
                words = new GrowthWords();
            }
            due("begin(" + number + ")", words.begin(number), firsts.getOrDefault(number, -1));
        }
    }

    private static void numbersOfLongerWords() {
        int[] five = {word(0, 0, 0, 0, 0), word(5, 5, 5, 5, 5), word(0, 1, 2, 3, 4), word(0, 0, 0, 0, 0, 0, 0, 0)};
        for (int number : five) {
            GrowthWords words = beginning(0, 0, 0, 0, 0, 0, 0, 0);
            due("rule(0, " + number + ")", words.rule(0, number), -2);
            due("find(0, " + number + ", 0)", words.find(0, number, 0), -3);
            due("occurrences(0, " + number + ")", words.occurrences(0, number), -3);
        }
        int[] nine = {word(0, 0, 0, 0, 0, 0, 0, 0, 0), word(5, 5, 5, 5, 5, 5, 5, 5, 5), word(5, 4, 3, 2, 1, 0, 5, 4, 3),
            word(0, 0, 0, 0, 0, 0, 0, 0, 0, 0), word(0, 0, 0, 0, 0, 0, 0, 0, 0, 0, 0)};
        for (int number : nine) {
            GrowthWords words = new GrowthWords();
            due("begin(" + number + ")", words.begin(number), -1);
            due("rule(0, " + number + ")", words.rule(0, number), -2);
            due("find(0, " + number + ", 0)", words.find(0, number, 0), -3);
            due("occurrences(0, " + number + ")", words.occurrences(0, number), -3);
        }
    }

    // ---- Terms: drawing ----

    private static void actions0To3() {
        for (int letter = 0; letter <= 5; letter++) {
            GrowthWords words = new GrowthWords();
            due("at first", words.action(letter, 0), 0);
            for (int action = 1; action <= 3; action++) {
                due("action " + action, words.action(letter, action), action - 1);
            }
            due("action 4", words.action(letter, 4), -2);
            due("action -1", words.action(letter, -1), -2);
            due("after 4 and -1", words.action(letter, 0), 3);
        }
    }

    private static void penAtFirst() {
        GrowthWords words = drawing(0, 1, 0, 1);
        due("point before all letters", words.point(0, 0), at(0, 0));
        for (int again = 0; again < 3; again++) {
            due("each question begins anew", words.point(0, 4), at(1, 1));
            due("each question begins anew", words.direction(0), 2);
            due("each question begins anew", words.extent(0), 4096 + 1);
        }
        words.rule(0, 0);
        words.rule(1, 0);
        due("point of no letters", words.point(1, 1), at(0, 0));
        due("direction of no letters", words.direction(1), 0);
        due("extent of no letters", words.extent(1), 0);
    }

    private static void action0() {
        GrowthWords words = drawing(3, 1, 4, 0, 5, 1, 3);
        due("no step, no turn", words.point(0, 7), at(0, 1));
        due("no step, no turn", words.direction(0), 2);
        due("no step, no turn", words.extent(0), 1);
        words.action(0, 0);
        due("nothing any more", words.point(0, 7), at(0, 0));
        due("nothing any more", words.extent(0), 0);
    }

    private static void action1() {
        due("direction 0", drawing(0).point(0, 1), at(1, 0));
        due("direction 1", drawing(1, 0).point(0, 2), at(0, 1));
        due("direction 2", drawing(1, 1, 0).point(0, 3), at(-1, 0));
        due("direction 3", drawing(1, 1, 1, 0).point(0, 4), at(0, -1));
        for (int turns = 0; turns < 4; turns++) {
            int[] letters = zeros(turns + 1);
            for (int place = 0; place < turns; place++) {
                letters[place] = 1;
            }
            due("direction stays", drawing(letters).direction(0), turns);
        }
    }

    private static void action2() {
        for (int turns = 1; turns <= 8; turns++) {
            int[] letters = new int[turns];
            for (int place = 0; place < turns; place++) {
                letters[place] = 1;
            }
            due(turns + " turns", drawing(letters).direction(0), turns % 4);
        }
        due("4 becoming 0", drawing(1, 1, 1, 1, 0).point(0, 5), at(1, 0));
        due("4 becoming 0, then 1", drawing(1, 1, 1, 1, 1, 0).point(0, 6), at(0, 1));
        due("4 becoming 0", drawing(1, 1, 1, 1, 0).extent(0), 4096);
        due("from 3 to 0", drawing(2, 1, 0).point(0, 3), at(1, 0));
        GrowthWords many = zerosInGeneration5(2999);
        many.action(0, 2);
        due("2999 turns", many.direction(5), 3);
    }

    private static void action3() {
        for (int turns = 1; turns <= 8; turns++) {
            int[] letters = new int[turns];
            for (int place = 0; place < turns; place++) {
                letters[place] = 2;
            }
            due(turns + " turns", drawing(letters).direction(0), (8 - turns) % 4);
        }
        due("-1 becoming 3", drawing(2, 0).point(0, 2), at(0, -1));
        due("-1 becoming 3", drawing(2, 0).extent(0), 1);
        due("-1 becoming 3, then 2", drawing(2, 2, 0).point(0, 3), at(-1, 0));
        due("from 0 to 3 again", drawing(2, 2, 2, 2, 2, 0).point(0, 6), at(0, -1));
        due("from 1 to 0", drawing(1, 2, 0).point(0, 3), at(1, 0));
        GrowthWords many = zerosInGeneration5(2999);
        many.action(0, 3);
        due("2999 turns", many.direction(5), 1);
    }

    // ---- Terms: refusals ----

    private static void refusedChangesNothing() {
        List<Refusal> refusals = List.of(
            new Refusal("rule of letter -1", words -> words.rule(-1, word(1, 1)), -1),
            new Refusal("rule of letter 6", words -> words.rule(6, word(1, 1)), -1),
            new Refusal("rule, all wrong", words -> words.rule(6, 7), -1),
            new Refusal("rule, no word", words -> words.rule(0, 7), -2),
            new Refusal("rule, 0 inside", words -> words.rule(3, 1 + 49), -2),
            new Refusal("rule, 5 letters", words -> words.rule(4, word(1, 1, 1, 1, 1)), -2),
            new Refusal("rule, below 0", words -> words.rule(5, -1), -2),
            new Refusal("rule, least", words -> words.rule(0, MIN), -2),
            new Refusal("rule, greatest", words -> words.rule(0, MAX), -2),
            new Refusal("begin, empty", words -> words.begin(0), -1),
            new Refusal("begin, no word", words -> words.begin(7), -1),
            new Refusal("begin, 0 inside", words -> words.begin(2 + 49), -1),
            new Refusal("begin, 9 letters", words -> words.begin(word(1, 1, 1, 1, 1, 1, 1, 1, 1)), -1),
            new Refusal("begin, below 0", words -> words.begin(-2), -1),
            new Refusal("begin, least", words -> words.begin(MIN), -1),
            new Refusal("begin, greatest", words -> words.begin(MAX), -1),
            new Refusal("action of letter -1", words -> words.action(-1, 3), -1),
            new Refusal("action of letter 6", words -> words.action(6, 3), -1),
            new Refusal("action, all wrong", words -> words.action(6, 4), -1),
            new Refusal("action 4", words -> words.action(0, 4), -2),
            new Refusal("action -1", words -> words.action(5, -1), -2),
            new Refusal("action, greatest", words -> words.action(3, MAX), -2));
        for (Refusal refusal : refusals) {
            GrowthWords words = lively();
            due(refusal.name, refusal.call.on(words), refusal.answer);
            alike("after " + refusal.name, words, lively());
            GrowthWords tooLong = overgrown();
            due(refusal.name, refusal.call.on(tooLong), refusal.answer);
            alike("after " + refusal.name, tooLong, overgrown());
        }
        for (Question question : QUESTIONS) {
            GrowthWords words = overgrown();
            due(question.name, question.asked.of(words, 13), -1);
            due(question.name, question.asked.of(words, -1), -1);
            due(question.name, question.asked.of(words, 12), -2);
            alike("after refused " + question.name, words, overgrown());
        }
        for (Question question : WRONG_QUESTIONS) {
            GrowthWords words = overgrown();
            due(question.name, question.asked.of(words, 0), question.onNewObject);
            alike("after refused " + question.name, words, overgrown());
        }
    }

    private static void testsInTheirOrder() {
        GrowthWords words = overgrown();
        for (int letter : NO_LETTERS) {
            due("rule: letter before word", words.rule(letter, 7), -1);
            due("rule: letter before word", words.rule(letter, MIN), -1);
            due("action: letter before action", words.action(letter, 4), -1);
            due("action: letter before action", words.action(letter, -1), -1);
        }
        for (Question question : WRONG_QUESTIONS) {
            for (int n : NO_GENERATIONS) {
                due(question.name + ": n before the rest", question.asked.of(words, n), -1);
            }
            for (int n = 5; n <= 12; n++) {
                due(question.name + ": too long before the rest", question.asked.of(words, n), -2);
            }
            due(question.name + ": the rest", question.asked.of(words, 4), question.onNewObject);
        }
        due("find: word before place", words.find(4, 7, MAX), -3);
        due("find: word before place", vanishing().find(1, 0, 0), -3);
    }

    private static void nIsNot0To12() {
        for (Question question : QUESTIONS) {
            GrowthWords words = new GrowthWords();
            for (int n : NO_GENERATIONS) {
                due(question.name + ", n " + n, question.asked.of(words, n), -1);
                due(question.name + ", n " + n + ", too long", question.asked.of(overgrown(), n), -1);
            }
            for (int n = 0; n <= 12; n++) {
                due(question.name + ", n " + n, question.asked.of(words, n), question.onNewObject);
            }
        }
    }

    private static void generationIsTooLong() {
        for (Question question : QUESTIONS) {
            GrowthWords words = fourfold();
            for (int n = 5; n <= 12; n++) {
                due(question.name + ", n " + n, question.asked.of(words, n), -2);
            }
            GrowthWords last = lastTooLong();
            due(question.name + ", n 12 alone", question.asked.of(last, 12), -2);
            due(question.name + ", n 11", question.asked.of(last, 11) == -2 ? -2 : 0, 0);
            due(question.name + ", 3000 letters", question.asked.of(lastFull(), 12) == -2 ? -2 : 0, 0);
            words.rule(0, word(0));
            words.begin(word(0));
            due(question.name + ", too long no more", question.asked.of(words, 12), question.onNewObject);
        }
    }

    private static void twoGenerations() {
        GrowthWords words = fourfold();
        for (int n : NO_GENERATIONS) {
            due("first is none", words.common(n, 0), -1);
            due("second is none", words.common(0, n), -1);
            due("both are none", words.common(n, n), -1);
            for (int m = 5; m <= 12; m++) {
                due("first is none, second too long", words.common(n, m), -1);
                due("first is too long, second none", words.common(m, n), -1);
            }
        }
        due("first is too long", words.common(5, 4), -2);
        due("second is too long", words.common(4, 5), -2);
        due("both are too long", words.common(5, 12), -2);
        due("both are one, too long", words.common(12, 12), -2);
        due("neither is too long", words.common(4, 3), 256);
    }

    private static void questionsChangeNothing() {
        for (Question question : QUESTIONS) {
            GrowthWords words = lively();
            GrowthWords tooLong = overgrown();
            for (int n = 0; n <= 12; n++) {
                question.asked.of(words, n);
                question.asked.of(tooLong, n);
            }
            alike("after " + question.name, words, lively());
            alike("after " + question.name, tooLong, overgrown());
        }
        GrowthWords words = lively();
        for (int n = 0; n <= 12; n++) {
            words.letterAt(n, 2);
            words.count(n, 5, 0, MAX);
            words.find(n, word(5, 4), 0);
            words.occurrences(n, word(5, 4, 0, 0));
            words.common(n, 12 - n);
            words.kinds(n, 3);
            words.point(n, MAX);
        }
        alike("after all questions", words, lively());
    }

    // ---- Promise 1 ----

    private static void newObject() {
        GrowthWords changed = lively();
        for (int repeated = 0; repeated < 2; repeated++) {
            GrowthWords words = new GrowthWords();
            for (int n = 0; n <= 12; n++) {
                holds("first word and rules", words, n, 0);
            }
            for (int letter = 0; letter < 6; letter++) {
                due("action of " + letter, words.action(letter, 0), 0);
                due("begin", words.begin(word(letter, letter)), 2);
                holds("rule of " + letter, words, 1, letter, letter);
            }
            due("changes of another object", changed.begin(word(repeated)), 1);
        }
        holds("its own state", changed, 1, 2);
    }

    // ---- Promise 2 ----

    private static void ruleLetter() {
        for (int letter : NO_LETTERS) {
            due("rule(" + letter + ", ..)", new GrowthWords().rule(letter, word(1)), -1);
            due("rule(" + letter + ", 0)", new GrowthWords().rule(letter, 0), -1);
        }
        GrowthWords words = beginning(0, 5);
        due("rule(0, ..)", words.rule(0, word(1, 2)), 2);
        due("rule(5, ..)", words.rule(5, word(3, 4)), 2);
        holds("the rules are set", words, 1, 1, 2, 3, 4);
    }

    private static void ruleWord() {
        for (int letter = 0; letter < 6; letter++) {
            GrowthWords words = beginning(letter);
            for (int number : new int[] {-1, -8, 7, 14, 49, 50, 343, 344, 2394, 2401, 2801, 16806, MIN, MAX}) {
                due("rule(" + letter + ", " + number + ")", words.rule(letter, number), -2);
            }
            holds("refused", words, 1, letter);
            due("the greatest word", words.rule(letter, 2400), 4);
            holds("the greatest word", words, 1, 5, 5, 5, 5);
            due("the least word", words.rule(letter, 0), 0);
            holds("the least word", words, 1);
        }
    }

    private static void ruleAnswer() {
        GrowthWords words = new GrowthWords();
        for (int letter = 0; letter < 6; letter++) {
            for (int length : new int[] {4, 0, 3, 1, 2, 0, 4, 1, 1}) {
                due("rule of " + length, words.rule(letter, word(zeros(length))), length);
            }
        }
    }

    // ---- Promise 3 ----

    private static void beginWord() {
        GrowthWords words = beginning(3, 4);
        for (int number : new int[] {0, -1, -4, 7, 49, 50, 343, 5764794, 5764801, 6725601, 40353606, MIN, MAX}) {
            due("begin(" + number + ")", words.begin(number), -1);
        }
        holds("refused", words, 0, 3, 4);
        holds("refused", words, 12, 3, 4);
        due("the least word", words.begin(1), 1);
        holds("the least word", words, 0, 0);
        due("the greatest word", words.begin(5764800), 8);
        holds("the greatest word", words, 0, 5, 5, 5, 5, 5, 5, 5, 5);
    }

    private static void beginAnswer() {
        GrowthWords words = new GrowthWords();
        for (int length : new int[] {8, 1, 7, 2, 6, 3, 5, 4, 8, 8, 1, 1}) {
            due("begin of " + length, words.begin(word(zeros(length))), length);
            due("generation 0", words.length(0), length);
            due("generation 12", words.length(12), length);
        }
    }

    // ---- Promise 4 ----

    private static void actionLetter() {
        for (int letter : NO_LETTERS) {
            for (int action = 0; action <= 3; action++) {
                due("action(" + letter + ", " + action + ")", new GrowthWords().action(letter, action), -1);
            }
        }
        GrowthWords words = beginning(0, 5, 0);
        due("action(0, 1)", words.action(0, 1), 0);
        due("action(5, 2)", words.action(5, 2), 0);
        due("the actions are set", words.point(0, 3), at(1, 1));
    }

    private static void actionAction() {
        for (int letter = 0; letter < 6; letter++) {
            GrowthWords words = new GrowthWords();
            words.action(letter, 2);
            for (int action : new int[] {-1, 4, 5, -3, 256, MIN, MAX}) {
                due("action(" + letter + ", " + action + ")", words.action(letter, action), -2);
            }
            due("refused", words.action(letter, 0), 2);
        }
    }

    private static void actionAnswer() {
        GrowthWords words = new GrowthWords();
        for (int letter = 0; letter < 6; letter++) {
            int before = 0;
            for (int action : new int[] {3, 3, 0, 0, 1, 2, 1, 3, 2, 0}) {
                due("action of " + letter, words.action(letter, action), before);
                before = action;
            }
        }
    }

    // ---- Promise 5 ----

    private static void lengths() {
        due("no letter", vanishing().length(1), 0);
        due("no letter in the last", vanishing().length(12), 0);
        due("one letter", new GrowthWords().length(12), 1);
        due("eight letters", beginning(0, 0, 0, 0, 0, 0, 0, 0).length(0), 8);
        due("all letters", zerosInGeneration5(3000).length(5), 3000);
        due("all letters in the last", lastFull().length(12), 3000);
        due("fewer again", shortAgain().length(1), 1);
    }

    /** Generations 0 and 1 were longer before: 22222222 and that twice; now they are 2 and 3. */
    private static GrowthWords shortAgain() {
        GrowthWords words = beginning(2, 2, 2, 2, 2, 2, 2, 2);
        words.rule(2, word(2, 2));
        words.begin(word(2));
        words.rule(2, word(3));
        return words;
    }

    // ---- Promise 6 ----

    private static void noLetterAtPlace() {
        for (int place : new int[] {-1, 3, 4, MIN, MAX, -3}) {
            due("letterAt(0, " + place + ")", beginning(1, 2, 3).letterAt(0, place), -3);
        }
        due("the first", beginning(1, 2, 3).letterAt(0, 0), 1);
        due("the last", beginning(1, 2, 3).letterAt(0, 2), 3);
        for (int place : new int[] {-1, 0, 1, MIN, MAX}) {
            due("no letter, letterAt(1, " + place + ")", vanishing().letterAt(1, place), -3);
        }
        GrowthWords full = zerosInGeneration5(3000);
        due("3000 letters, the last", full.letterAt(5, 2999), 0);
        due("3000 letters, behind it", full.letterAt(5, 3000), -3);
        GrowthWords last = lastFull();
        due("generation 12, the last", last.letterAt(12, 2999) < 0 ? -3 : 0, 0);
        due("generation 12, behind it", last.letterAt(12, 3000), -3);
        due("before the first is not the end of the one before", full.letterAt(5, -1), -3);
        due("letters of before", shortAgain().letterAt(0, 1), -3);
        due("letters of before", shortAgain().letterAt(1, 1), -3);
    }

    // ---- Promise 7 ----

    private static void countAsFarAsThereArePlaces() {
        GrowthWords words = beginning(1, 1, 0, 1);
        due("from below 0", words.count(0, 1, -1, 1), 1);
        due("from far below 0", words.count(0, 1, MIN, 4), 3);
        due("to is 0", words.count(0, 1, MIN, 0), 0);
        due("to below 0", words.count(0, 1, MIN, -1), 0);
        due("to least", words.count(0, 1, 0, MIN), 0);
        due("both least", words.count(0, 1, MIN, MIN), 0);
        due("to behind the end", words.count(0, 1, 3, 5), 1);
        due("to greatest", words.count(0, 1, 0, MAX), 3);
        due("from at the end", words.count(0, 1, 4, MAX), 0);
        due("from greatest", words.count(0, 1, MAX, MAX), 0);
        due("widest", words.count(0, 1, MIN, MAX), 3);
        due("from is to", words.count(0, 1, 1, 1), 0);
        due("from is behind to", words.count(0, 1, 3, 1), 0);
        due("from greatest, to least", words.count(0, 1, MAX, MIN), 0);
        due("no letter", vanishing().count(1, 0, MIN, MAX), 0);
        due("3000 letters", zerosInGeneration5(3000).count(5, 0, MIN, MAX), 3000);
        due("3000 letters, the last", zerosInGeneration5(3000).count(5, 0, 2999, MAX), 1);
        due("letters of before", shortAgain().count(0, 2, 0, MAX), 1);
        due("letters of before", shortAgain().count(1, 2, 0, MAX), 0);
    }

    private static void countToIsNotCounted() {
        GrowthWords words = beginning(0, 1, 2, 3);
        for (int letter = 0; letter < 4; letter++) {
            due("from and to - 1", words.count(0, letter, letter, letter + 1), 1);
            due("to", words.count(0, letter, 0, letter), 0);
            due("behind", words.count(0, letter, letter + 1, 4), 0);
        }
    }

    private static void countLetter() {
        GrowthWords words = beginning(0, 5, 5);
        for (int letter : NO_LETTERS) {
            due("count of " + letter, words.count(0, letter, 0, 3), -3);
            due("count of " + letter + ", no places", words.count(0, letter, 3, 0), -3);
            due("count of " + letter + ", no letters", vanishing().count(1, letter, 0, 3), -3);
        }
        due("count of 0", words.count(0, 0, 0, 3), 1);
        due("count of 5", words.count(0, 5, 0, 3), 2);
        due("count of one that is not there", words.count(0, 4, 0, 3), 0);
    }

    // ---- Promise 8 ----

    private static void findAtLeastFrom() {
        GrowthWords words = beginning(1, 2, 1, 2, 1, 2);
        int[] places = {0, 2, 2, 4, 4, -4, -4};
        for (int from = 0; from < places.length; from++) {
            due("find from " + from, words.find(0, word(1, 2), from), places[from]);
        }
        due("find from -1", words.find(0, word(1, 2), -1), 0);
        due("find from least", words.find(0, word(1, 2), MIN), 0);
        due("find from least, later", words.find(0, word(2), MIN), 1);
        due("overlapping", words.find(0, word(1, 2, 1), 1), 2);
    }

    private static void findWord() {
        GrowthWords words = beginning(0, 0, 0, 0, 0, 0, 0, 0);
        for (int number : new int[] {0, -1, 7, 8 + 343, 50, 2401, 2801, 16806, MIN, MAX}) {
            due("find(0, " + number + ", 0)", words.find(0, number, 0), -3);
            due("find(0, " + number + ", MAX)", words.find(0, number, MAX), -3);
            due("no letters, " + number, vanishing().find(1, number, 0), -3);
        }
        due("1 letter", words.find(0, 1, 0), 0);
        due("4 letters", words.find(0, word(0, 0, 0, 0), 0), 0);
        due("the greatest word", words.find(0, 2400, 0), -4);
    }

    private static void findNowhere() {
        GrowthWords words = beginning(0, 1, 2, 3, 0);
        due("not there", words.find(0, word(5), 0), -4);
        due("only before from", words.find(0, word(1), 2), -4);
        due("from is the length", words.find(0, word(0), 5), -4);
        due("from is greatest", words.find(0, word(0), MAX), -4);
        due("over the end", words.find(0, word(0, 1), 1), -4);
        due("from too far for the word", words.find(0, word(3, 0), 4), -4);
        due("the last place for 1 letter", words.find(0, word(0), 4), 4);
        due("the last place for 2 letters", words.find(0, word(3, 0), 3), 3);
        due("the last place for 3 letters", words.find(0, word(2, 3, 0), 2), 2);
        due("the last place for 4 letters", words.find(0, word(1, 2, 3, 0), 1), 1);
        due("longer than all", beginning(0, 1).find(0, word(0, 1, 2), 0), -4);
        due("no letter", vanishing().find(1, word(0), 0), -4);
        due("letters of before", shortAgain().find(0, word(2, 2), 0), -4);
        due("letters of before", shortAgain().find(1, word(2), 0), -4);
        GrowthWords full = zerosInGeneration5(3000);
        due("3000 letters, the last place", full.find(5, word(0, 0, 0, 0), 2996), 2996);
        due("3000 letters, over the end", full.find(5, word(0, 0, 0, 0), 2997), -4);
        due("3000 letters, 1 letter", full.find(5, word(0), 2999), 2999);
        due("3000 letters, from 3000", full.find(5, word(0), 3000), -4);
        due("generation 12, from 2997", lastFull().find(12, word(0, 0, 0, 0), 2997), -4);
    }

    // ---- Promise 9 ----

    private static void occurrencesOverlap() {
        int[] due = {8, 7, 6, 5};
        GrowthWords words = beginning(4, 4, 4, 4, 4, 4, 4, 4);
        for (int size = 1; size <= 4; size++) {
            int[] letters = new int[size];
            java.util.Arrays.fill(letters, 4);
            due("of " + size + " letters", words.occurrences(0, word(letters)), due[size - 1]);
        }
        due("every other place", beginning(1, 2, 1, 2, 1).occurrences(0, word(1, 2, 1)), 2);
        due("at the end", beginning(0, 1, 2, 3).occurrences(0, word(2, 3)), 1);
        due("the whole", beginning(0, 1, 2, 3).occurrences(0, word(0, 1, 2, 3)), 1);
        due("over the end", beginning(0, 1, 2, 3).occurrences(0, word(3, 0)), 0);
        due("longer than all", beginning(0, 0, 0).occurrences(0, word(0, 0, 0, 0)), 0);
        due("no letter", vanishing().occurrences(1, word(0)), 0);
        due("letters of before", shortAgain().occurrences(0, word(2)), 1);
        due("letters of before", shortAgain().occurrences(0, word(2, 2)), 0);
        GrowthWords full = zerosInGeneration5(3000);
        for (int size = 1; size <= 4; size++) {
            due("3000 letters", full.occurrences(5, word(zeros(size))), 3001 - size);
        }
    }

    private static void occurrencesWord() {
        GrowthWords words = beginning(0, 0, 0, 0, 0, 0, 0, 0);
        for (int number : new int[] {0, -1, 7, 8 + 343, 50, 2401, 2801, 16806, MIN, MAX}) {
            due("occurrences(0, " + number + ")", words.occurrences(0, number), -3);
            due("no letters, " + number, vanishing().occurrences(1, number), -3);
        }
        due("the least word", words.occurrences(0, 1), 8);
        due("the greatest word", beginning(5, 5, 5, 5).occurrences(0, 2400), 1);
    }

    // ---- Promise 10 ----

    private static void runs() {
        due("no letter", vanishing().run(1), 0);
        due("one letter", beginning(5).run(0), 1);
        due("at the beginning", beginning(0, 0, 1, 2).run(0), 2);
        due("at the end", beginning(1, 2, 0, 0).run(0), 2);
        due("not over a letter between", beginning(0, 0, 1, 0, 0).run(0), 2);
        due("all eight", beginning(0, 0, 0, 0, 0, 0, 0, 0).run(0), 8);
        due("3000 letters", zerosInGeneration5(3000).run(5), 3000);
        due("3000 letters, all but the first", turnsAndZeros(1).run(5), 2999);
        due("letters of before", shortAgain().run(0), 1);
    }

    // ---- Promise 11 ----

    private static void commons() {
        GrowthWords full = zerosInGeneration5(3000);
        due("3000 letters, the same", full.common(5, 5), 3000);
        due("3000 letters, up to the first other", full.common(5, 4), 750);
        due("the other way round", full.common(4, 5), 750);
        due("the last generation", lastFull().common(12, 12), 3000);
        due("one is empty", vanishing().common(0, 1), 0);
        due("one is empty", vanishing().common(1, 0), 0);
        due("both are empty", vanishing().common(1, 12), 0);
        GrowthWords words = beginning(0, 1, 2);
        due("all", words.common(0, 12), 3);
        words.rule(2, word(2, 2));
        due("one is the other's beginning", words.common(0, 1), 3);
        due("one is the other's beginning", words.common(4, 3), 10);
        words.rule(2, word(3));
        due("but the last", words.common(0, 1), 2);
        words.rule(0, word(4));
        due("not the first", words.common(0, 1), 0);
        GrowthWords later = beginning(0, 1, 2, 3);
        later.rule(1, word(5));
        due("nothing behind the first other", later.common(0, 1), 1);
    }

    // ---- Promise 12 ----

    private static void mirrors() {
        due("no letter", vanishing().mirrored(1), 1);
        due("one letter", beginning(5).mirrored(0), 1);
        for (int length = 2; length <= 8; length++) {
            due(length + " letters", beginning(zeros(length)).mirrored(0), 1);
            for (int place = 0; place < length; place++) {
                int[] letters = zeros(length);
                letters[place] = 1;
                boolean middle = length - 1 - place == place;
                due(length + " letters, another at " + place, beginning(letters).mirrored(0), middle ? 1 : 0);
            }
        }
        due("3000 letters", zerosInGeneration5(3000).mirrored(5), 1);
        due("3000 letters, the first is another", turnsAndZeros(1).mirrored(5), 0);
        due("letters of before", shortAgain().mirrored(0), 1);
    }

    // ---- Promise 13 ----

    private static void kindsK() {
        GrowthWords words = beginning(0, 1, 2, 3, 4, 5, 0, 1);
        for (int k : new int[] {0, 4, -1, 8, MIN, MAX}) {
            due("kinds(0, " + k + ")", words.kinds(0, k), -3);
            due("no letters, kinds(1, " + k + ")", vanishing().kinds(1, k), -3);
        }
        for (int k = 1; k <= 3; k++) {
            due("kinds(0, " + k + ")", words.kinds(0, k), 6);
        }
    }

    private static void kindsOfAllLengths() {
        for (int k = 1; k <= 3; k++) {
            due("no letter", vanishing().kinds(1, k), 0);
            due("one letter", beginning(5).kinds(0, k), k == 1 ? 1 : 0);
            due("as many letters as k", beginning(zeros(k)).kinds(0, k), 1);
            due("one fewer than k", beginning(zeros(k)).kinds(0, k + 1), k == 3 ? -3 : 0);
            due("3000 letters", zerosInGeneration5(3000).kinds(5, k), 1);
            due("3000 letters, the first is another", turnsAndZeros(1).kinds(5, k), 2);
            due("letters of before", shortAgain().kinds(0, k), k == 1 ? 1 : 0);
        }
        due("one at the end", beginning(0, 0, 0, 0, 0, 0, 0, 1).kinds(0, 3), 2);
        due("the same letters in another order", beginning(0, 1, 2, 0, 2, 1, 0).kinds(0, 3), 5);
        due("numbers apart", beginning(1, 0, 1, 1, 0, 0, 0).kinds(0, 2), 4);
    }

    // ---- Promise 14 ----

    private static void pointLetters() {
        GrowthWords words = drawing(0, 0, 1, 0);
        for (int letters : new int[] {0, -1, -2, MIN}) {
            due("point(0, " + letters + ")", words.point(0, letters), at(0, 0));
        }
        due("point(0, 1)", words.point(0, 1), at(1, 0));
        due("point(0, 3)", words.point(0, 3), at(2, 0));
        for (int letters : new int[] {4, 5, 9, MAX}) {
            due("point(0, " + letters + ")", words.point(0, letters), at(2, 1));
        }
        for (int letters : new int[] {0, -1, 1, MIN, MAX}) {
            due("no letters, point(1, " + letters + ")", vanishing().point(1, letters), at(0, 0));
        }
        GrowthWords full = zerosInGeneration5(3000);
        full.action(0, 1);
        due("2999 of 3000 letters", full.point(5, 2999), at(2999, 0));
        due("3000 letters", full.point(5, 3000), at(3000, 0));
        due("3001 of 3000 letters", full.point(5, 3001), at(3000, 0));
        GrowthWords shorter = shortAgain();
        shorter.action(2, 1);
        due("letters of before", shorter.point(0, MAX), at(1, 0));
    }

    private static void pointFarthest() {
        GrowthWords right = zerosInGeneration5(3000);
        right.action(0, 1);
        due("x 3000", right.point(5, MAX), 8192 * 7096 + 4096);
        GrowthWords one = turnsAndZeros(1);
        one.action(5, 2);
        due("y 2999", one.point(5, MAX), 8192 * 4096 + 7095);
        one.action(5, 3);
        due("y -2999", one.point(5, MAX), 8192 * 4096 + 1097);
        GrowthWords two = turnsAndZeros(2);
        two.action(5, 2);
        due("x -2998", two.point(5, MAX), 8192 * 1098 + 4096);
        due("x -1, y -1", drawing(1, 1, 0, 1, 0).point(0, 5), 8192 * 4095 + 4095);
    }

    // ---- Promise 15 ----

    private static void directionAfterAll() {
        due("no letter", vanishing().direction(1), 0);
        due("the first counts", drawing(1, 0, 0).direction(0), 1);
        due("the last counts", drawing(0, 0, 1).direction(0), 1);
        due("all four", drawing(1, 1, 1, 1).direction(0), 0);
        due("all four back", drawing(2, 2, 2, 2).direction(0), 0);
        due("one and one back", drawing(1, 2).direction(0), 0);
        due("one back and one", drawing(2, 1).direction(0), 0);
        GrowthWords three = turnsAndZeros(3);
        three.action(5, 3);
        due("3000 letters", three.direction(5), 1);
        GrowthWords full = zerosInGeneration5(3000);
        full.action(0, 2);
        due("3000 turns", full.direction(5), 0);
        GrowthWords shorter = shortAgain();
        shorter.action(2, 2);
        due("letters of before", shorter.direction(0), 1);
    }

    // ---- Promise 16 ----

    private static void firstPointCounted() {
        due("no letter", vanishing().extent(1), 0);
        due("one to the right", drawing(0).extent(0), 4096);
        due("one up", drawing(1, 0).extent(0), 1);
        due("one to the left", drawing(1, 1, 0).extent(0), 4096);
        due("one down", drawing(2, 0).extent(0), 1);
        due("right and up", drawing(0, 0, 1, 0).extent(0), 4096 * 2 + 1);
        due("left and down", drawing(2, 0, 2, 0, 0).extent(0), 4096 * 2 + 1);
    }

    private static void extentOfAllPoints() {
        due("there and back", drawing(0, 0, 1, 1, 0, 0).extent(0), 4096 * 2);
        due("up and back", drawing(1, 0, 0, 1, 1, 0, 0).extent(0), 2);
        due("both sides of the first x", drawing(0, 1, 1, 0, 0).extent(0), 4096 * 2);
        due("both sides of the first y", drawing(2, 0, 1, 1, 0, 0).extent(0), 2);
        due("the last step", drawing(1, 1, 1, 0, 1, 0).extent(0), 4096 + 1);
        GrowthWords right = zerosInGeneration5(3000);
        right.action(0, 1);
        due("x to 3000", right.extent(5), 4096 * 3000);
        GrowthWords one = turnsAndZeros(1);
        one.action(5, 2);
        due("y to 2999", one.extent(5), 2999);
        one.action(5, 3);
        due("y to -2999", one.extent(5), 2999);
        GrowthWords two = turnsAndZeros(2);
        two.action(5, 3);
        due("x to -2998", two.extent(5), 4096 * 2998);
        GrowthWords shorter = shortAgain();
        shorter.action(2, 1);
        due("letters of before", shorter.extent(0), 4096);
    }

    // ---- The sentences ----

    private static void sentence(String section, String quoted, Runnable test) {
        int before = faults();
        try {
            test.run();
        } catch (RuntimeException thrown) {
            fault("thrown: " + thrown);
        }
        if (faults() > before) {
            System.out.println("so this is broken: " + section + ": " + quoted);
        }
    }

    private static void terms() {
        sentence("What it is", "An object is used for at most 512 calls after it has been made", BoundariesTest::lastOfAllCalls);
        sentence("Terms", "There are six LETTERS, 0 to 5.", BoundariesTest::sixLetters);
        sentence("Terms", "Every letter has a RULE, a word of 0 to 4 letters", BoundariesTest::ruleOf0To4Letters);
        sentence("Terms", "at first the rule of each letter is the word of just this letter.", BoundariesTest::ruleAtFirst);
        sentence("Terms", "There is a FIRST WORD of 1 to 8 letters, at first the word of the letter 0 alone.",
            BoundariesTest::firstWordOf1To8Letters);
        sentence("Terms", "GENERATION 0 is the first word", BoundariesTest::generation0);
        sentence("Terms", "generation n + 1 is generation n with the rule of every letter in its place.",
            BoundariesTest::nextGeneration);
        sentence("Terms", "Generations are asked for up to 12.", BoundariesTest::generationsUpTo12);
        sentence("Terms", "Generation n is TOO LONG if it", BoundariesTest::moreThan3000Letters);
        sentence("Terms", "or any generation before it has more than 3000 letters.", BoundariesTest::anyGenerationBefore);
        sentence("Terms", "Letters of a word have the places 0, 1, 2, .. .", BoundariesTest::placesFrom0);
        sentence("Terms", "(0 for the empty word)", BoundariesTest::numberOfTheEmptyWord);
        sentence("Terms", "a number that comes out so for no word", BoundariesTest::numbersOfNoWord);
        sentence("Terms", "(or for one that is longer than allowed) is no word's.", BoundariesTest::numbersOfLongerWords);
    }

    private static void drawings() {
        sentence("Terms", "every letter has an ACTION, 0 to 3, at first 0.", BoundariesTest::actions0To3);
        sentence("Terms", "at first (0, 0) and 0.", BoundariesTest::penAtFirst);
        sentence("Terms", "0 nothing happens", BoundariesTest::action0);
        sentence("Terms", "1 the pen goes one on in its direction: for 0 x grows by 1, for 1 y grows by 1, "
            + "for 2 x becomes less by 1, for 3 y becomes less by 1", BoundariesTest::action1);
        sentence("Terms", "2 its direction grows by 1, 4 becoming 0", BoundariesTest::action2);
        sentence("Terms", "3 its direction becomes less by 1, -1 becoming 3.", BoundariesTest::action3);
    }

    private static void refusals() {
        sentence("Terms", "A refused call changes nothing.", BoundariesTest::refusedChangesNothing);
        sentence("Terms", "The tests of a call are made in the order in which they are named.",
            BoundariesTest::testsInTheirOrder);
        sentence("Terms", "In all questions: n is not 0 to 12: -1", BoundariesTest::nIsNot0To12);
        sentence("Terms", "generation n is too long: -2", BoundariesTest::generationIsTooLong);
        sentence("Terms", "(for two generations, both are tested in this way, first both for -1, then both for -2).",
            BoundariesTest::twoGenerations);
        sentence("Terms", "The calls below change nothing.", BoundariesTest::questionsChangeNothing);
    }

    private static void changes() {
        sentence("Promise 1", "As named above.", BoundariesTest::newObject);
        sentence("Promise 2", "letter is not 0 to 5: -1", BoundariesTest::ruleLetter);
        sentence("Promise 2", "word is not the number of a word of 0 to 4 letters: -2.", BoundariesTest::ruleWord);
        sentence("Promise 2", "Else answers its length.", BoundariesTest::ruleAnswer);
        sentence("Promise 3", "word is not the number of a word of 1 to 8 letters: -1.", BoundariesTest::beginWord);
        sentence("Promise 3", "Else answers its length.", BoundariesTest::beginAnswer);
        sentence("Promise 4", "letter is not 0 to 5: -1", BoundariesTest::actionLetter);
        sentence("Promise 4", "action is not 0 to 3: -2.", BoundariesTest::actionAction);
        sentence("Promise 4", "Else answers the action that it had.", BoundariesTest::actionAnswer);
    }

    private static void questions() {
        sentence("Promise 5", "How many letters generation n has.", BoundariesTest::lengths);
        sentence("Promise 6", "there is none: -3.", BoundariesTest::noLetterAtPlace);
        sentence("Promise 7", "at the places from 'from' to 'to' - 1", BoundariesTest::countToIsNotCounted);
        sentence("Promise 7", "as far as there are such places", BoundariesTest::countAsFarAsThereArePlaces);
        sentence("Promise 7", "letter is not 0 to 5: -3.", BoundariesTest::countLetter);
        sentence("Promise 8", "The least place p that is at least 'from'", BoundariesTest::findAtLeastFrom);
        sentence("Promise 8", "word is not the number of a word of 1 to 4 letters: -3", BoundariesTest::findWord);
        sentence("Promise 8", "there is no such place: -4.", BoundariesTest::findNowhere);
        sentence("Promise 9", "At how many places of generation n a word stands (they may overlap)",
            BoundariesTest::occurrencesOverlap);
        sentence("Promise 9", "word is not the number of a word of 1 to 4 letters: -3.", BoundariesTest::occurrencesWord);
        sentence("Promise 10", "The greatest number of equal letters directly behind one another", BoundariesTest::runs);
        sentence("Promise 11", "How many letters generations n and m have in common at their beginnings, place by place.",
            BoundariesTest::commons);
        sentence("Promise 12", "1 if generation n read from its end is the same word, else 0.", BoundariesTest::mirrors);
        sentence("Promise 13", "k is not 1 to 3: -3.", BoundariesTest::kindsK);
        sentence("Promise 13", "How many different words of k letters stand in generation n",
            BoundariesTest::kindsOfAllLengths);
        sentence("Promise 14", "(fewer than 0 count as 0, more than there are as all)", BoundariesTest::pointLetters);
        sentence("Promise 14", "the pen is at (x, y): 8192 * (x + 4096) + y + 4096.", BoundariesTest::pointFarthest);
        sentence("Promise 15", "The pen's direction after all letters of generation n.", BoundariesTest::directionAfterAll);
        sentence("Promise 16", "the first point counted, too", BoundariesTest::firstPointCounted);
        sentence("Promise 16", "the pen comes to points with x from x0 to x1 and y from y0 to y1",
            BoundariesTest::extentOfAllPoints);
    }

    public static void main(String[] args) {
        terms();
        drawings();
        refusals();
        changes();
        questions();
        end();
    }
}
