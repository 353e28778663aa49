/** What the tests have in common: how an answer is looked at, and objects to ask. */
abstract class Checks {
    protected static final int MIN = Integer.MIN_VALUE;
    protected static final int MAX = Integer.MAX_VALUE;
    protected static final int ORIGIN = 8192 * 4096 + 4096;

    private static int wrong = 0;

    protected static void due(String call, int got, int want) {
        if (got != want) {
            fault(call + " answered " + got + ", due is " + want);
        }
    }

    protected static void fault(String what) {
        wrong++;
        System.out.println(what);
    }

    protected static int faults() {
        return wrong;
    }

    protected static void end() {
        System.out.println(wrong == 0 ? "all answers are as due" : wrong + " answers are not as due");
        if (wrong != 0) {
            System.exit(1);
        }
    }

    protected static int word(int... letters) {
        int number = 0;
        int weight = 1;
        for (int letter : letters) {
            number += weight * (letter + 1);
            weight *= 7;
        }
        return number;
    }

    protected static int at(int x, int y) {
        return 8192 * (x + 4096) + y + 4096;
    }

    protected static GrowthWords beginning(int... letters) {
        GrowthWords words = new GrowthWords();
        due("begin", words.begin(word(letters)), letters.length);
        return words;
    }

    /** Generations 0, 1, .. are 0, 01, 010, 01001, 01001010, .. */
    protected static GrowthWords fibonacci() {
        GrowthWords words = new GrowthWords();
        due("fibonacci: rule 0", words.rule(0, word(0, 1)), 2);
        due("fibonacci: rule 1", words.rule(1, word(0)), 1);
        return words;
    }

    /** Generation 5 has 4096 letters, so that it and all after it are too long; generation 4 has 1024. */
    protected static GrowthWords fourfold() {
        GrowthWords words = beginning(0, 0, 0, 0);
        due("fourfold: rule 0", words.rule(0, word(0, 0, 0, 0)), 4);
        return words;
    }

    /** Generation 1 and all after it have no letter. */
    protected static GrowthWords vanishing() {
        GrowthWords words = beginning(0, 1, 0);
        due("vanishing: rule 0", words.rule(0, 0), 0);
        due("vanishing: rule 1", words.rule(1, 0), 0);
        return words;
    }

    /** Letter 0 goes on, letter 1 turns up, letter 2 turns down. */
    protected static GrowthWords drawing(int... letters) {
        GrowthWords words = beginning(letters);
        due("drawing: action 0", words.action(0, 1), 0);
        due("drawing: action 1", words.action(1, 2), 0);
        due("drawing: action 2", words.action(2, 3), 0);
        return words;
    }

    protected static void holds(String when, GrowthWords words, int n, int... letters) {
        due(when + ": length(" + n + ")", words.length(n), letters.length);
        for (int place = 0; place < letters.length; place++) {
            due(when + ": letterAt(" + n + ", " + place + ")", words.letterAt(n, place), letters[place]);
        }
    }
}
