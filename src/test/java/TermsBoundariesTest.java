import java.util.HashMap;
import java.util.List;
import java.util.Map;

/**
 * One test for each sentence of the document's sections "What it is" and "Terms" that names a boundary case; the
 * sentence is quoted where its test is listed, at the end of this file. What is due is worked out by hand, but for
 * the numbers of words, which are made from all words there are.
 */
public final class TermsBoundariesTest extends Boundaries {
    private interface Asked {
        int of(GrowthWords words, int n);
    }

    private record Question(String name, Asked asked, int onNewObject) {
    }

    /** Every question about a generation n, with further arguments that are allowed. */
    private static final List<Question> QUESTIONS = List.of(
        new Question("length", (words, n) -> words.length(n), 1),
        new Question("letterAt", (words, n) -> words.letterAt(n, 0), 0),
        new Question("count", (words, n) -> words.count(n, 0, 0, 1), 1),
        new Question("find", (words, n) -> words.find(n, word(0), 0), 0),
        new Question("occurrences", (words, n) -> words.occurrences(n, word(0)), 1),
        new Question("run", (words, n) -> words.run(n), 1),
        new Question("common, first", (words, n) -> words.common(n, 0), 1),
        new Question("common, second", (words, n) -> words.common(0, n), 1),
        new Question("mirrored", (words, n) -> words.mirrored(n), 1),
        new Question("kinds", (words, n) -> words.kinds(n, 1), 1),
        new Question("point", (words, n) -> words.point(n, 1), ORIGIN),
        new Question("direction", (words, n) -> words.direction(n), 0),
        new Question("extent", (words, n) -> words.extent(n), 0));

    /** Questions that would answer -3 or -4 even where n is right. */
    private static final List<Question> WRONG_QUESTIONS = List.of(
        new Question("letterAt, below 0", (words, n) -> words.letterAt(n, -1), -3),
        new Question("letterAt, too far", (words, n) -> words.letterAt(n, MAX), -3),
        new Question("count, no letter", (words, n) -> words.count(n, 6, 0, 1), -3),
        new Question("find, empty word", (words, n) -> words.find(n, 0, 0), -3),
        new Question("find, no word", (words, n) -> words.find(n, 7, MAX), -3),
        new Question("find, nowhere", (words, n) -> words.find(n, word(5), 0), -4),
        new Question("occurrences, empty word", (words, n) -> words.occurrences(n, 0), -3),
        new Question("occurrences, no word", (words, n) -> words.occurrences(n, 7), -3),
        new Question("kinds, of none", (words, n) -> words.kinds(n, 0), -3),
        new Question("kinds, of 4", (words, n) -> words.kinds(n, 4), -3));

    private static final int[] NO_GENERATIONS = {-1, 13, 14, -12, 256, MIN, MAX};

    private interface Call {
        int on(GrowthWords words);
    }

    private record Refusal(String name, Call call, int answer) {
    }

    private static void changesNothing(String name, Call call) {
        List<Look> looks = List.of(TermsBoundariesTest::lookByLetterAt, TermsBoundariesTest::lookByFind);
        for (Look look : looks) {
            GrowthWords words = lively();
            call.on(words);
            stillIs(LIVELY, "after " + name, words, look);
            GrowthWords tooLong = overgrown();
            call.on(tooLong);
            stillIs(OVERGROWN, "after " + name, tooLong, look);
        }
    }

    // ---- What it is ----

    private static void lastOfAllCalls() {
        for (Question question : QUESTIONS) {
            due("call 512: " + question.name, question.asked.of(afterCalls(511), 12), question.onNewObject);
        }
        due("call 512: rule", afterCalls(511).rule(5, word(0, 0, 0, 0)), 4);
        due("call 512: begin", afterCalls(511).begin(word(0, 1, 2, 3, 4, 5, 0, 1)), 8);
        due("call 512: action", afterCalls(511).action(5, 3), 2);
        GrowthWords changed = afterCalls(510);
        due("call 511: begin", changed.begin(word(3, 3)), 2);
        due("call 512: the new first word", changed.length(12), 2);
    }

    /** Many changes of all kinds that leave but the action of letter 5 other than it was. */
    private static GrowthWords afterCalls(int calls) {
        GrowthWords words = new GrowthWords();
        for (int call = 4; call < calls; call++) {
            switch (call % 4) {
                case 0 -> words.rule(call % 6, word(5, 4, 3, 2));
                case 1 -> words.begin(word(0, 1, 2, 3, 4, 5, 0, 1));
                case 2 -> words.rule((call - 2) % 6, word((call - 2) % 6));
                default -> words.action(5, 2);
            }
        }
        words.rule(0, word(0));
        words.rule(2, word(2));
        words.rule(4, word(4));
        words.begin(word(0));
        return words;
    }

    // ---- Terms ----

    private static void sixLetters() {
        for (int letter = 0; letter <= 5; letter++) {
            GrowthWords words = beginning(letter);
            holds("letter " + letter, words, 12, letter);
            due("rule of letter " + letter, words.rule(letter, word(letter, letter)), 2);
            due("action of letter " + letter, words.action(letter, 1), 0);
            due("count of letter " + letter, words.count(1, letter, 0, 2), 2);
        }
        for (int letter : new int[] {-1, 6}) {
            GrowthWords words = new GrowthWords();
            due("rule of " + letter, words.rule(letter, word(0)), -1);
            due("action of " + letter, words.action(letter, 0), -1);
            due("count of " + letter, words.count(0, letter, 0, 1), -3);
        }
    }

    private static void ruleOf0To4Letters() {
        for (int letter = 0; letter <= 5; letter++) {
            GrowthWords words = beginning(letter);
            due("4 letters", words.rule(letter, word(5, 0, 5, 1)), 4);
            holds("4 letters", words, 1, 5, 0, 5, 1);
            due("5 letters", words.rule(letter, word(5, 0, 5, 1, 0)), -2);
            holds("after 5 letters", words, 1, 5, 0, 5, 1);
            due("0 letters", words.rule(letter, 0), 0);
            holds("0 letters", words, 1);
        }
    }

    private static void ruleAtFirst() {
        for (int letter = 0; letter <= 5; letter++) {
            GrowthWords words = beginning(letter);
            for (int n = 0; n <= 12; n++) {
                holds("letter " + letter, words, n, letter);
            }
        }
    }

    private static void firstWordOf1To8Letters() {
        GrowthWords words = new GrowthWords();
        holds("at first", words, 0, 0);
        due("8 letters", words.begin(word(5, 0, 4, 1, 3, 2, 5, 5)), 8);
        holds("8 letters", words, 0, 5, 0, 4, 1, 3, 2, 5, 5);
        due("9 letters", words.begin(word(0, 0, 0, 0, 0, 0, 0, 0, 0)), -1);
        due("0 letters", words.begin(0), -1);
        holds("after 9 and 0 letters", words, 0, 5, 0, 4, 1, 3, 2, 5, 5);
        due("1 letter", words.begin(word(5)), 1);
        holds("1 letter", words, 0, 5);
    }

    private static void generation0() {
        GrowthWords words = beginning(0, 1, 2);
        words.rule(0, word(3, 3, 3, 3));
        words.rule(1, 0);
        words.rule(2, word(0));
        holds("rules are not put in", words, 0, 0, 1, 2);
        holds("too long does not reach it", overgrown(), 0, 0, 0, 0, 0);
        holds("vanishing does not reach it", vanishing(), 0, 0, 1, 0);
    }

    private static void nextGeneration() {
        GrowthWords swapped = beginning(0, 1, 1);
        swapped.rule(0, word(1));
        swapped.rule(1, word(0));
        for (int n = 0; n <= 12; n += 2) {
            holds("even", swapped, n, 0, 1, 1);
        }
        for (int n = 1; n <= 11; n += 2) {
            holds("odd", swapped, n, 1, 0, 0);
        }
        GrowthWords first = beginning(2, 0);
        first.rule(2, 0);
        holds("the first letter goes", first, 1, 0);
        GrowthWords last = beginning(0, 2);
        last.rule(2, 0);
        holds("the last letter goes", last, 1, 0);
        GrowthWords none = vanishing();
        for (int n = 1; n <= 12; n++) {
            holds("the empty word stays empty", none, n);
        }
        none.rule(0, word(1, 1));
        holds("no more empty", none, 1, 1, 1, 1, 1);
        holds("empty one later", none, 2);
        holds("empty to the end", none, 12);
    }

    private static void generationsUpTo12() {
        GrowthWords words = new GrowthWords();
        for (int letter = 0; letter < 6; letter++) {
            words.rule(letter, word((letter + 1) % 6));
        }
        for (int n = 0; n <= 12; n++) {
            holds("generation", words, n, n % 6);
        }
        due("length(13)", words.length(13), -1);
        words.begin(word(4));
        holds("after begin", words, 12, 4);
        words.rule(3, word(4, 4));
        holds("after rule", words, 11, 3, 3);
        holds("after rule", words, 12, 4, 4, 4, 4);
    }

    private static void moreThan3000Letters() {
        for (int count : new int[] {2048, 2997, 2998, 2999, 3000}) {
            GrowthWords words = zerosInGeneration5(count);
            due("length(5), " + count, words.length(5), count);
            due("count(5, 0, 0, 3000), " + count, words.count(5, 0, 0, 3000), count);
        }
        for (int count : new int[] {3001, 3002, 3003, 3004, 3072, 4095, 4096, 6000, 7168}) {
            GrowthWords words = zerosInGeneration5(count);
            due("length(4), " + count, words.length(4), count / 4 + 1);
            due("length(5), " + count, words.length(5), -2);
            due("length(6), " + count, words.length(6), -2);
        }
        due("generation 12 of 3000", lastFull().length(12), 3000);
        due("generation 11 of 1763", lastTooLong().length(11), 1763);
        due("generation 12 of 3001", lastTooLong().length(12), -2);
        GrowthWords threeMore = three(word(1, 0, 1, 1, 1), word(2, 2, 0), word(0), word(1));
        due("generation 12 of 3001, 3 for the last letter", threeMore.length(12), -2);
        GrowthWords fourMore = three(word(1, 2, 1, 0, 0, 1), word(1, 1, 2, 1), word(2), word(0));
        due("generation 11 of 1749", fourMore.length(11), 1749);
        due("generation 12 of 3003, 4 for the last letter", fourMore.length(12), -2);
    }

    private static void anyGenerationBefore() {
        GrowthWords words = beginning(0, 0, 0, 0);
        for (int letter = 0; letter < 5; letter++) {
            int next = letter + 1;
            words.rule(letter, word(next, next, next, next));
        }
        words.rule(5, 0);
        for (int n = 0; n <= 4; n++) {
            due("before, length(" + n + ")", words.length(n), 4 << 2 * n);
        }
        for (int n = 5; n <= 12; n++) {
            due("empty behind one of 4096, length(" + n + ")", words.length(n), -2);
        }
        words.begin(word(0, 0));
        due("short enough again, length(5)", words.length(5), 2048);
        for (int n = 6; n <= 12; n++) {
            due("short enough again, length(" + n + ")", words.length(n), 0);
        }
        GrowthWords full = zerosInGeneration5(3000);
        full.rule(0, word(0, 0, 0, 0));
        due("behind one of 3000", full.length(6), -2);
        full.rule(5, word(0));
        due("behind one of 3001", full.length(12), -2);
        full.rule(0, word(0));
        holds("a rule makes all short", full, 1, zeros(5, 2));
        due("a rule makes all short", full.length(12), 13);
    }

    private static void placesFrom0() {
        GrowthWords words = beginning(5, 4, 3);
        due("place 0", words.letterAt(0, 0), 5);
        due("the last place", words.letterAt(0, 2), 3);
        due("find at place 0", words.find(0, word(5), 0), 0);
        due("find at the last place", words.find(0, word(3), 0), 2);
        due("count at place 0", words.count(0, 5, 0, 1), 1);
        due("count at the last place", words.count(0, 3, 2, 3), 1);
    }

    private static void numberOfTheEmptyWord() {
        GrowthWords words = new GrowthWords();
        due("rule", words.rule(0, 0), 0);
        holds("rule", words, 1);
        due("begin", words.begin(0), -1);
        due("find", words.find(0, 0, 0), -3);
        due("occurrences", words.occurrences(0, 0), -3);
    }

    /** For each number of a word of least to most letters, how many letters it has. */
    private static Map<Integer, Integer> lengthsOfWords(int least, int most) {
        Map<Integer, Integer> lengths = new HashMap<>();
        lengths.put(0, 0);
        int[] shorter = {0};
        int weight = 1;
        for (int length = 1; length <= most; length++) {
            int[] longer = new int[6 * shorter.length];
            for (int i = 0; i < longer.length; i++) {
                longer[i] = shorter[i / 6] + weight * (i % 6 + 1);
                lengths.put(longer[i], length);
            }
            shorter = longer;
            weight *= 7;
        }
        lengths.values().removeIf(length -> length < least);
        return lengths;
    }

    private static void numbersOfNoWord() {
        Map<Integer, Integer> rules = lengthsOfWords(0, 4);
        Map<Integer, Integer> firsts = lengthsOfWords(1, 8);
        Map<Integer, Integer> sought = lengthsOfWords(1, 4);
        GrowthWords words = new GrowthWords();
        for (int number = -3000; number <= 120000; number++) {
            if (number % 100 == 0) {
                words = new GrowthWords();
            }
            if (number <= 17000) {
                due("rule(5, " + number + ")", words.rule(5, number), rules.getOrDefault(number, -2));
                int found = sought.containsKey(number) ? -4 : -3;
                due("find(0, " + number + ", 8)", words.find(0, number, 8), found);
                int refused = sought.containsKey(number) ? 0 : -3;
                due("occurrences(0, " + number + ")", Math.min(words.occurrences(0, number), 0), refused);
            }
            due("begin(" + number + ")", words.begin(number), firsts.getOrDefault(number, -1));
        }
        for (int number = 5764801 - 60000; number <= 5764801 + 60000; number++) {
            if (number % 500 == 0) {
                words = new GrowthWords();
            }
            due("begin(" + number + ")", words.begin(number), firsts.getOrDefault(number, -1));
        }
    }

    private static void numbersOfLongerWords() {
        int[] five = {word(0, 0, 0, 0, 0), word(5, 5, 5, 5, 5), word(0, 1, 2, 3, 4), word(0, 0, 0, 0, 0, 0, 0, 0)};
        for (int number : five) {
            GrowthWords words = beginning(0, 0, 0, 0, 0, 0, 0, 0);
            due("rule(0, " + number + ")", words.rule(0, number), -2);
            due("find(0, " + number + ", 0)", words.find(0, number, 0), -3);
            due("occurrences(0, " + number + ")", words.occurrences(0, number), -3);
        }
        int[] nine = {word(0, 0, 0, 0, 0, 0, 0, 0, 0), word(5, 5, 5, 5, 5, 5, 5, 5, 5), word(5, 4, 3, 2, 1, 0, 5, 4, 3),
            word(0, 0, 0, 0, 0, 0, 0, 0, 0, 0), word(0, 0, 0, 0, 0, 0, 0, 0, 0, 0, 0)};
        for (int number : nine) {
            GrowthWords words = new GrowthWords();
            due("begin(" + number + ")", words.begin(number), -1);
            due("rule(0, " + number + ")", words.rule(0, number), -2);
            due("find(0, " + number + ", 0)", words.find(0, number, 0), -3);
            due("occurrences(0, " + number + ")", words.occurrences(0, number), -3);
        }
    }

    // ---- Terms: drawing ----

    private static void actions0To3() {
        for (int letter = 0; letter <= 5; letter++) {
            GrowthWords words = new GrowthWords();
            due("at first", words.action(letter, 0), 0);
            for (int action = 1; action <= 3; action++) {
                due("action " + action, words.action(letter, action), action - 1);
            }
            due("action 4", words.action(letter, 4), -2);
            due("action -1", words.action(letter, -1), -2);
            due("after 4 and -1", words.action(letter, 0), 3);
        }
    }

    private static void penAtFirst() {
        GrowthWords words = drawing(0, 1, 0, 1);
        due("point before all letters", words.point(0, 0), at(0, 0));
        for (int again = 0; again < 3; again++) {
            due("each question begins anew", words.point(0, 4), at(1, 1));
            due("each question begins anew", words.direction(0), 2);
            due("each question begins anew", words.extent(0), 4096 + 1);
        }
        words.rule(0, 0);
        words.rule(1, 0);
        due("point of no letters", words.point(1, 1), at(0, 0));
        due("direction of no letters", words.direction(1), 0);
        due("extent of no letters", words.extent(1), 0);
    }

    private static void action0() {
        GrowthWords words = drawing(3, 1, 4, 0, 5, 1, 3);
        due("no step, no turn", words.point(0, 7), at(0, 1));
        due("no step, no turn", words.direction(0), 2);
        due("no step, no turn", words.extent(0), 1);
        words.action(0, 0);
        due("nothing any more", words.point(0, 7), at(0, 0));
        due("nothing any more", words.extent(0), 0);
    }

    private static void action1() {
        due("direction 0", drawing(0).point(0, 1), at(1, 0));
        due("direction 1", drawing(1, 0).point(0, 2), at(0, 1));
        due("direction 2", drawing(1, 1, 0).point(0, 3), at(-1, 0));
        due("direction 3", drawing(1, 1, 1, 0).point(0, 4), at(0, -1));
        for (int turns = 0; turns < 4; turns++) {
            int[] letters = zeros(turns + 1);
            for (int place = 0; place < turns; place++) {
                letters[place] = 1;
            }
            due("direction stays", drawing(letters).direction(0), turns);
        }
    }

    private static void action2() {
        for (int turns = 1; turns <= 8; turns++) {
            int[] letters = new int[turns];
            for (int place = 0; place < turns; place++) {
                letters[place] = 1;
            }
            due(turns + " turns", drawing(letters).direction(0), turns % 4);
        }
        due("4 becoming 0", drawing(1, 1, 1, 1, 0).point(0, 5), at(1, 0));
        due("4 becoming 0, then 1", drawing(1, 1, 1, 1, 1, 0).point(0, 6), at(0, 1));
        due("4 becoming 0", drawing(1, 1, 1, 1, 0).extent(0), 4096);
        due("from 3 to 0", drawing(2, 1, 0).point(0, 3), at(1, 0));
        GrowthWords many = zerosInGeneration5(2999);
        many.action(0, 2);
        due("2999 turns", many.direction(5), 3);
    }

    private static void action3() {
        for (int turns = 1; turns <= 8; turns++) {
            int[] letters = new int[turns];
            for (int place = 0; place < turns; place++) {
                letters[place] = 2;
            }
            due(turns + " turns", drawing(letters).direction(0), (8 - turns) % 4);
        }
        due("-1 becoming 3", drawing(2, 0).point(0, 2), at(0, -1));
        due("-1 becoming 3", drawing(2, 0).extent(0), 1);
        due("-1 becoming 3, then 2", drawing(2, 2, 0).point(0, 3), at(-1, 0));
        due("from 0 to 3 again", drawing(2, 2, 2, 2, 2, 0).point(0, 6), at(0, -1));
        due("from 1 to 0", drawing(1, 2, 0).point(0, 3), at(1, 0));
        GrowthWords many = zerosInGeneration5(2999);
        many.action(0, 3);
        due("2999 turns", many.direction(5), 1);
    }

    // ---- Terms: refusals ----

    private static void refusedChangesNothing() {
        List<Refusal> refusals = List.of(
            new Refusal("rule of letter -1", words -> words.rule(-1, word(1, 1)), -1),
            new Refusal("rule of letter 6", words -> words.rule(6, word(1, 1)), -1),
            new Refusal("rule, all wrong", words -> words.rule(6, 7), -1),
            new Refusal("rule, no word", words -> words.rule(0, 7), -2),
            new Refusal("rule, 0 inside", words -> words.rule(3, 1 + 49), -2),
            new Refusal("rule, 5 letters", words -> words.rule(4, word(1, 1, 1, 1, 1)), -2),
            new Refusal("rule, below 0", words -> words.rule(5, -1), -2),
            new Refusal("rule, least", words -> words.rule(0, MIN), -2),
            new Refusal("rule, greatest", words -> words.rule(0, MAX), -2),
            new Refusal("begin, empty", words -> words.begin(0), -1),
            new Refusal("begin, no word", words -> words.begin(7), -1),
            new Refusal("begin, 0 inside", words -> words.begin(2 + 49), -1),
            new Refusal("begin, 9 letters", words -> words.begin(word(1, 1, 1, 1, 1, 1, 1, 1, 1)), -1),
            new Refusal("begin, below 0", words -> words.begin(-2), -1),
            new Refusal("begin, least", words -> words.begin(MIN), -1),
            new Refusal("begin, greatest", words -> words.begin(MAX), -1),
            new Refusal("action of letter -1", words -> words.action(-1, 3), -1),
            new Refusal("action of letter 6", words -> words.action(6, 3), -1),
            new Refusal("action, all wrong", words -> words.action(6, 4), -1),
            new Refusal("action 4", words -> words.action(0, 4), -2),
            new Refusal("action -1", words -> words.action(5, -1), -2),
            new Refusal("action, greatest", words -> words.action(3, MAX), -2));
        for (Refusal refusal : refusals) {
            due(refusal.name, refusal.call.on(lively()), refusal.answer);
            due(refusal.name, refusal.call.on(overgrown()), refusal.answer);
            changesNothing(refusal.name, refusal.call);
        }
        for (Question question : QUESTIONS) {
            for (int n : new int[] {-1, 13, 12}) {
                changesNothing(question.name + " of " + n, words -> question.asked.of(words, n));
            }
        }
        for (Question question : WRONG_QUESTIONS) {
            changesNothing(question.name, words -> question.asked.of(words, 0));
        }
    }

    private static void testsInTheirOrder() {
        GrowthWords words = overgrown();
        for (int letter : NO_LETTERS) {
            due("rule: letter before word", words.rule(letter, 7), -1);
            due("rule: letter before word", words.rule(letter, MIN), -1);
            due("action: letter before action", words.action(letter, 4), -1);
            due("action: letter before action", words.action(letter, -1), -1);
        }
        for (Question question : WRONG_QUESTIONS) {
            for (int n : NO_GENERATIONS) {
                due(question.name + ": n before the rest", question.asked.of(words, n), -1);
            }
            for (int n = 5; n <= 12; n++) {
                due(question.name + ": too long before the rest", question.asked.of(words, n), -2);
            }
            due(question.name + ": the rest", question.asked.of(words, 4), question.onNewObject);
        }
        due("find: word before place", words.find(4, 7, MAX), -3);
        due("find: word before place", vanishing().find(1, 0, 0), -3);
    }

    private static void nIsNot0To12() {
        for (Question question : QUESTIONS) {
            GrowthWords words = new GrowthWords();
            for (int n : NO_GENERATIONS) {
                due(question.name + ", n " + n, question.asked.of(words, n), -1);
                due(question.name + ", n " + n + ", too long", question.asked.of(overgrown(), n), -1);
            }
            for (int n = 0; n <= 12; n++) {
                due(question.name + ", n " + n, question.asked.of(words, n), question.onNewObject);
            }
        }
    }

    private static void generationIsTooLong() {
        for (Question question : QUESTIONS) {
            GrowthWords words = fourfold();
            for (int n = 5; n <= 12; n++) {
                due(question.name + ", n " + n, question.asked.of(words, n), -2);
            }
            GrowthWords last = lastTooLong();
            due(question.name + ", n 12 alone", question.asked.of(last, 12), -2);
            due(question.name + ", n 11", question.asked.of(last, 11) == -2 ? -2 : 0, 0);
            due(question.name + ", 3000 letters", question.asked.of(lastFull(), 12) == -2 ? -2 : 0, 0);
            words.rule(0, word(0));
            words.begin(word(0));
            due(question.name + ", too long no more", question.asked.of(words, 12), question.onNewObject);
        }
    }

    private static void twoGenerations() {
        GrowthWords words = fourfold();
        for (int n : NO_GENERATIONS) {
            due("first is none", words.common(n, 0), -1);
            due("second is none", words.common(0, n), -1);
            due("both are none", words.common(n, n), -1);
            for (int m = 5; m <= 12; m++) {
                due("first is none, second too long", words.common(n, m), -1);
                due("first is too long, second none", words.common(m, n), -1);
            }
        }
        due("first is too long", words.common(5, 4), -2);
        due("second is too long", words.common(4, 5), -2);
        due("both are too long", words.common(5, 12), -2);
        due("both are one, too long", words.common(12, 12), -2);
        due("neither is too long", words.common(4, 3), 256);
    }

    private static void questionsChangeNothing() {
        for (Question question : QUESTIONS) {
            for (int n : new int[] {0, 1, 4, 12}) {
                changesNothing(question.name + " of " + n, words -> question.asked.of(words, n));
            }
        }
        changesNothing("letterAt", words -> words.letterAt(4, 2));
        changesNothing("count", words -> words.count(3, 5, MIN, MAX));
        changesNothing("find", words -> words.find(2, word(5, 1), 5));
        changesNothing("occurrences", words -> words.occurrences(2, word(0, 5, 1, 0)));
        changesNothing("common", words -> words.common(4, 3));
        changesNothing("kinds", words -> words.kinds(3, 3));
        changesNothing("point", words -> words.point(4, MAX));
    }

    // ---- The sentences ----

    private static void terms() {
        sentence("What it is", "An object is used for at most 512 calls after it has been made",
            TermsBoundariesTest::lastOfAllCalls);
        sentence("Terms", "There are six LETTERS, 0 to 5.", TermsBoundariesTest::sixLetters);
        sentence("Terms", "Every letter has a RULE, a word of 0 to 4 letters", TermsBoundariesTest::ruleOf0To4Letters);
        sentence("Terms", "at first the rule of each letter is the word of just this letter.",
            TermsBoundariesTest::ruleAtFirst);
        sentence("Terms", "There is a FIRST WORD of 1 to 8 letters, at first the word of the letter 0 alone.",
            TermsBoundariesTest::firstWordOf1To8Letters);
        sentence("Terms", "GENERATION 0 is the first word", TermsBoundariesTest::generation0);
        sentence("Terms", "generation n + 1 is generation n with the rule of every letter in its place.",
            TermsBoundariesTest::nextGeneration);
        sentence("Terms", "Generations are asked for up to 12.", TermsBoundariesTest::generationsUpTo12);
        sentence("Terms", "Generation n is TOO LONG if it", TermsBoundariesTest::moreThan3000Letters);
        sentence("Terms", "or any generation before it has more than 3000 letters.",
            TermsBoundariesTest::anyGenerationBefore);
        sentence("Terms", "Letters of a word have the places 0, 1, 2, .. .", TermsBoundariesTest::placesFrom0);
        sentence("Terms", "(0 for the empty word)", TermsBoundariesTest::numberOfTheEmptyWord);
        sentence("Terms", "a number that comes out so for no word", TermsBoundariesTest::numbersOfNoWord);
        sentence("Terms", "(or for one that is longer than allowed) is no word's.",
            TermsBoundariesTest::numbersOfLongerWords);
    }

    private static void drawings() {
        sentence("Terms", "every letter has an ACTION, 0 to 3, at first 0.", TermsBoundariesTest::actions0To3);
        sentence("Terms", "at first (0, 0) and 0.", TermsBoundariesTest::penAtFirst);
        sentence("Terms", "0 nothing happens", TermsBoundariesTest::action0);
        sentence("Terms", "1 the pen goes one on in its direction: for 0 x grows by 1, for 1 y grows by 1, "
            + "for 2 x becomes less by 1, for 3 y becomes less by 1", TermsBoundariesTest::action1);
        sentence("Terms", "2 its direction grows by 1, 4 becoming 0", TermsBoundariesTest::action2);
        sentence("Terms", "3 its direction becomes less by 1, -1 becoming 3.", TermsBoundariesTest::action3);
    }

    private static void refusals() {
        sentence("Terms", "A refused call changes nothing.", TermsBoundariesTest::refusedChangesNothing);
        sentence("Terms", "The tests of a call are made in the order in which they are named.",
            TermsBoundariesTest::testsInTheirOrder);
        sentence("Terms", "In all questions: n is not 0 to 12: -1", TermsBoundariesTest::nIsNot0To12);
        sentence("Terms", "generation n is too long: -2", TermsBoundariesTest::generationIsTooLong);
        sentence("Terms", "(for two generations, both are tested in this way, first both for -1, then both for -2).",
            TermsBoundariesTest::twoGenerations);
        sentence("Terms", "The calls below change nothing.", TermsBoundariesTest::questionsChangeNothing);
    }

    public static void main(String[] args) {
        terms();
        drawings();
        refusals();
        end();
    }
}
