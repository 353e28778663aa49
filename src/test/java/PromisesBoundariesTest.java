import java.util.Arrays;

/**
 * One test for each sentence of the sixteen promises that names a boundary case; the sentence is quoted where its
 * test is listed, at the end of this file. What is due is worked out by hand.
 */
public final class PromisesBoundariesTest extends Boundaries {
    // ---- Promise 1 ----

    private static void newObject() {
        GrowthWords changed = lively();
        GrowthWords words = new GrowthWords();
        for (int n = 0; n <= 12; n++) {
            holds("first word and rules", words, n, 0);
        }
        for (int letter = 0; letter < 6; letter++) {
            due("action of " + letter, words.action(letter, 0), 0);
            due("begin", words.begin(word(letter, letter)), 2);
            holds("rule of " + letter, words, 1, letter, letter);
            due("rule of " + letter, words.rule(letter, word(5, 5, 5, 5)), 4);
        }
        stillIs(LIVELY, "beside another object", changed, PromisesBoundariesTest::lookByLetterAt);
        holds("after others", new GrowthWords(), 12, 0);
    }

    // ---- Promise 2 ----

    private static void ruleLetter() {
        for (int letter : NO_LETTERS) {
            due("rule(" + letter + ", ..)", new GrowthWords().rule(letter, word(1)), -1);
            due("rule(" + letter + ", 0)", new GrowthWords().rule(letter, 0), -1);
        }
        GrowthWords words = beginning(0, 5);
        due("rule(0, ..)", words.rule(0, word(1, 2)), 2);
        due("rule(5, ..)", words.rule(5, word(3, 4)), 2);
        holds("the rules are set", words, 1, 1, 2, 3, 4);
    }

    private static void ruleWord() {
        for (int letter = 0; letter < 6; letter++) {
            GrowthWords words = beginning(letter);
            for (int number : new int[] {-1, -8, 7, 14, 49, 50, 343, 344, 2394, 2401, 2801, 16806, MIN, MAX}) {
                due("rule(" + letter + ", " + number + ")", words.rule(letter, number), -2);
            }
            holds("refused", words, 1, letter);
            due("the greatest word", words.rule(letter, 2400), 4);
            holds("the greatest word", words, 1, 5, 5, 5, 5);
            due("the least word", words.rule(letter, 0), 0);
            holds("the least word", words, 1);
        }
    }

    private static void ruleAnswer() {
        GrowthWords words = new GrowthWords();
        for (int letter = 0; letter < 6; letter++) {
            for (int length : new int[] {4, 0, 3, 1, 2, 0, 4, 1, 1}) {
                due("rule of " + length, words.rule(letter, word(zeros(length))), length);
            }
        }
    }

    // ---- Promise 3 ----

    private static void beginWord() {
        GrowthWords words = beginning(3, 4);
        for (int number : new int[] {0, -1, -4, 7, 49, 50, 343, 5764794, 5764801, 6725601, 40353606, MIN, MAX}) {
            due("begin(" + number + ")", words.begin(number), -1);
        }
        holds("refused", words, 0, 3, 4);
        holds("refused", words, 12, 3, 4);
        due("the least word", words.begin(1), 1);
        holds("the least word", words, 0, 0);
        due("the greatest word", words.begin(5764800), 8);
        holds("the greatest word", words, 0, 5, 5, 5, 5, 5, 5, 5, 5);
    }

    private static void beginAnswer() {
        GrowthWords words = new GrowthWords();
        for (int length : new int[] {8, 1, 7, 2, 6, 3, 5, 4, 8, 8, 1, 1}) {
            due("begin of " + length, words.begin(word(zeros(length))), length);
            due("generation 0", words.length(0), length);
            due("generation 12", words.length(12), length);
        }
    }

    // ---- Promise 4 ----

    private static void actionLetter() {
        for (int letter : NO_LETTERS) {
            for (int action = 0; action <= 3; action++) {
                due("action(" + letter + ", " + action + ")", new GrowthWords().action(letter, action), -1);
            }
        }
        GrowthWords words = beginning(0, 5, 0);
        due("action(0, 1)", words.action(0, 1), 0);
        due("action(5, 2)", words.action(5, 2), 0);
        due("the actions are set", words.point(0, 3), at(1, 1));
    }

    private static void actionAction() {
        for (int letter = 0; letter < 6; letter++) {
            GrowthWords words = new GrowthWords();
            words.action(letter, 2);
            for (int action : new int[] {-1, 4, 5, -3, 256, MIN, MAX}) {
                due("action(" + letter + ", " + action + ")", words.action(letter, action), -2);
            }
            due("refused", words.action(letter, 0), 2);
        }
    }

    private static void actionAnswer() {
        GrowthWords words = new GrowthWords();
        for (int letter = 0; letter < 6; letter++) {
            int before = 0;
            for (int action : new int[] {3, 3, 0, 0, 1, 2, 1, 3, 2, 0}) {
                due("action of " + letter, words.action(letter, action), before);
                before = action;
            }
        }
    }

    // ---- Promise 5 ----

    private static void lengths() {
        due("no letter", vanishing().length(1), 0);
        due("no letter in the last", vanishing().length(12), 0);
        due("one letter", new GrowthWords().length(12), 1);
        due("eight letters", beginning(0, 0, 0, 0, 0, 0, 0, 0).length(0), 8);
        due("all letters", zerosInGeneration5(3000).length(5), 3000);
        due("all letters in the last", lastFull().length(12), 3000);
        due("fewer again", shortAgain().length(1), 1);
    }

    // ---- Promise 6 ----

    private static void noLetterAtPlace() {
        for (int place : new int[] {-1, 3, 4, MIN, MAX, -3}) {
            due("letterAt(0, " + place + ")", beginning(1, 2, 3).letterAt(0, place), -3);
        }
        due("the first", beginning(1, 2, 3).letterAt(0, 0), 1);
        due("the last", beginning(1, 2, 3).letterAt(0, 2), 3);
        for (int place : new int[] {-1, 0, 1, MIN, MAX}) {
            due("no letter, letterAt(1, " + place + ")", vanishing().letterAt(1, place), -3);
        }
        GrowthWords full = zerosInGeneration5(3000);
        due("3000 letters, the last", full.letterAt(5, 2999), 0);
        due("3000 letters, behind it", full.letterAt(5, 3000), -3);
        GrowthWords last = lastFull();
        due("generation 12, the last", last.letterAt(12, 2999) < 0 ? -3 : 0, 0);
        due("generation 12, behind it", last.letterAt(12, 3000), -3);
        due("before the first is not the end of the one before", full.letterAt(5, -1), -3);
        due("letters of before", shortAgain().letterAt(0, 1), -3);
        due("letters of before", shortAgain().letterAt(1, 1), -3);
    }

    // ---- Promise 7 ----

    private static void countAsFarAsThereArePlaces() {
        GrowthWords words = beginning(1, 1, 0, 1);
        due("from below 0", words.count(0, 1, -1, 1), 1);
        due("from far below 0", words.count(0, 1, MIN, 4), 3);
        due("to is 0", words.count(0, 1, MIN, 0), 0);
        due("to below 0", words.count(0, 1, MIN, -1), 0);
        due("to least", words.count(0, 1, 0, MIN), 0);
        due("both least", words.count(0, 1, MIN, MIN), 0);
        due("to behind the end", words.count(0, 1, 3, 5), 1);
        due("to greatest", words.count(0, 1, 0, MAX), 3);
        due("from at the end", words.count(0, 1, 4, MAX), 0);
        due("from greatest", words.count(0, 1, MAX, MAX), 0);
        due("widest", words.count(0, 1, MIN, MAX), 3);
        due("from is to", words.count(0, 1, 1, 1), 0);
        due("from is behind to", words.count(0, 1, 3, 1), 0);
        due("from greatest, to least", words.count(0, 1, MAX, MIN), 0);
        due("no letter", vanishing().count(1, 0, MIN, MAX), 0);
        due("3000 letters", zerosInGeneration5(3000).count(5, 0, MIN, MAX), 3000);
        due("3000 letters, the last", zerosInGeneration5(3000).count(5, 0, 2999, MAX), 1);
        due("3000 letters, another at the last", zerosAndLast().count(5, 1, 0, 3000), 1);
        due("letters of before", shortAgain().count(0, 2, 0, MAX), 1);
        due("letters of before", shortAgain().count(1, 2, 0, MAX), 0);
    }

    private static void countToIsNotCounted() {
        GrowthWords words = beginning(0, 1, 2, 3);
        for (int letter = 0; letter < 4; letter++) {
            due("from and to - 1", words.count(0, letter, letter, letter + 1), 1);
            due("to", words.count(0, letter, 0, letter), 0);
            due("behind", words.count(0, letter, letter + 1, 4), 0);
        }
    }

    private static void countLetter() {
        GrowthWords words = beginning(0, 5, 5);
        for (int letter : NO_LETTERS) {
            due("count of " + letter, words.count(0, letter, 0, 3), -3);
            due("count of " + letter + ", no places", words.count(0, letter, 3, 0), -3);
            due("count of " + letter + ", no letters", vanishing().count(1, letter, 0, 3), -3);
        }
        due("count of 0", words.count(0, 0, 0, 3), 1);
        due("count of 5", words.count(0, 5, 0, 3), 2);
        due("count of one that is not there", words.count(0, 4, 0, 3), 0);
    }

    // ---- Promise 8 ----

    private static void findAtLeastFrom() {
        GrowthWords words = beginning(1, 2, 1, 2, 1, 2);
        int[] places = {0, 2, 2, 4, 4, -4, -4};
        for (int from = 0; from < places.length; from++) {
            due("find from " + from, words.find(0, word(1, 2), from), places[from]);
        }
        due("find from -1", words.find(0, word(1, 2), -1), 0);
        due("find from least", words.find(0, word(1, 2), MIN), 0);
        due("find from least, later", words.find(0, word(2), MIN), 1);
        due("overlapping", words.find(0, word(1, 2, 1), 1), 2);
    }

    private static void findWord() {
        GrowthWords words = beginning(0, 0, 0, 0, 0, 0, 0, 0);
        for (int number : new int[] {0, -1, 7, 8 + 343, 50, 2401, 2801, 16806, MIN, MAX}) {
            due("find(0, " + number + ", 0)", words.find(0, number, 0), -3);
            due("find(0, " + number + ", MAX)", words.find(0, number, MAX), -3);
            due("no letters, " + number, vanishing().find(1, number, 0), -3);
        }
        due("1 letter", words.find(0, 1, 0), 0);
        due("4 letters", words.find(0, word(0, 0, 0, 0), 0), 0);
        due("the greatest word", words.find(0, 2400, 0), -4);
    }

    private static void findNowhere() {
        GrowthWords words = beginning(0, 1, 2, 3, 0);
        due("not there", words.find(0, word(5), 0), -4);
        due("only before from", words.find(0, word(1), 2), -4);
        due("from is the length", words.find(0, word(0), 5), -4);
        due("from is greatest", words.find(0, word(0), MAX), -4);
        due("over the end", words.find(0, word(0, 1), 1), -4);
        due("from too far for the word", words.find(0, word(3, 0), 4), -4);
        due("the last place for 1 letter", words.find(0, word(0), 4), 4);
        due("the last place for 2 letters", words.find(0, word(3, 0), 3), 3);
        due("the last place for 3 letters", words.find(0, word(2, 3, 0), 2), 2);
        due("the last place for 4 letters", words.find(0, word(1, 2, 3, 0), 1), 1);
        due("longer than all", beginning(0, 1).find(0, word(0, 1, 2), 0), -4);
        due("no letter", vanishing().find(1, word(0), 0), -4);
        due("letters of before", shortAgain().find(0, word(2, 2), 0), -4);
        due("letters of before", shortAgain().find(1, word(2), 0), -4);
        GrowthWords full = zerosInGeneration5(3000);
        due("3000 letters, the last place", full.find(5, word(0, 0, 0, 0), 2996), 2996);
        due("3000 letters, over the end", full.find(5, word(0, 0, 0, 0), 2997), -4);
        due("3000 letters, 1 letter", full.find(5, word(0), 2999), 2999);
        due("3000 letters, from 3000", full.find(5, word(0), 3000), -4);
        due("3000 letters, only at the last place", zerosAndLast().find(5, word(1), 0), 2999);
        due("3000 letters, only at the end", zerosAndLast().find(5, word(0, 0, 0, 1), 0), 2996);
        due("generation 12, from 2997", lastFull().find(12, word(0, 0, 0, 0), 2997), -4);
    }

    // ---- Promise 9 ----

    private static void occurrencesOverlap() {
        int[] due = {8, 7, 6, 5};
        GrowthWords words = beginning(4, 4, 4, 4, 4, 4, 4, 4);
        for (int size = 1; size <= 4; size++) {
            int[] letters = new int[size];
            Arrays.fill(letters, 4);
            due("of " + size + " letters", words.occurrences(0, word(letters)), due[size - 1]);
        }
        due("every other place", beginning(1, 2, 1, 2, 1).occurrences(0, word(1, 2, 1)), 2);
        due("at the end", beginning(0, 1, 2, 3).occurrences(0, word(2, 3)), 1);
        due("the whole", beginning(0, 1, 2, 3).occurrences(0, word(0, 1, 2, 3)), 1);
        due("over the end", beginning(0, 1, 2, 3).occurrences(0, word(3, 0)), 0);
        due("longer than all", beginning(0, 0, 0).occurrences(0, word(0, 0, 0, 0)), 0);
        due("no letter", vanishing().occurrences(1, word(0)), 0);
        due("letters of before", shortAgain().occurrences(0, word(2)), 1);
        due("letters of before", shortAgain().occurrences(0, word(2, 2)), 0);
        GrowthWords full = zerosInGeneration5(3000);
        for (int size = 1; size <= 4; size++) {
            due("3000 letters", full.occurrences(5, word(zeros(size))), 3001 - size);
            due("3000 letters, at the end", zerosAndLast().occurrences(5, word(zeros(size - 1, 1))), 1);
        }
    }

    private static void occurrencesWord() {
        GrowthWords words = beginning(0, 0, 0, 0, 0, 0, 0, 0);
        for (int number : new int[] {0, -1, 7, 8 + 343, 50, 2401, 2801, 16806, MIN, MAX}) {
            due("occurrences(0, " + number + ")", words.occurrences(0, number), -3);
            due("no letters, " + number, vanishing().occurrences(1, number), -3);
        }
        due("the least word", words.occurrences(0, 1), 8);
        due("the greatest word", beginning(5, 5, 5, 5).occurrences(0, 2400), 1);
    }

    // ---- Promise 10 ----

    private static void runs() {
        due("no letter", vanishing().run(1), 0);
        due("one letter", beginning(5).run(0), 1);
        due("at the beginning", beginning(0, 0, 1, 2).run(0), 2);
        due("at the end", beginning(1, 2, 0, 0).run(0), 2);
        due("not over a letter between", beginning(0, 0, 1, 0, 0).run(0), 2);
        due("all eight", beginning(0, 0, 0, 0, 0, 0, 0, 0).run(0), 8);
        due("3000 letters", zerosInGeneration5(3000).run(5), 3000);
        due("3000 letters, all but the first", turnsAndZeros(1).run(5), 2999);
        due("3000 letters, all but the last", zerosAndLast().run(5), 2999);
        due("letters of before", shortAgain().run(0), 1);
    }

    // ---- Promise 11 ----

    private static void commons() {
        GrowthWords full = zerosInGeneration5(3000);
        due("3000 letters, the same", full.common(5, 5), 3000);
        due("3000 letters, up to the first other", full.common(5, 4), 750);
        due("the other way round", full.common(4, 5), 750);
        due("the last generation", lastFull().common(12, 12), 3000);
        due("one is empty", vanishing().common(0, 1), 0);
        due("one is empty", vanishing().common(1, 0), 0);
        due("both are empty", vanishing().common(1, 12), 0);
        GrowthWords words = beginning(0, 1, 2);
        due("all", words.common(0, 12), 3);
        words.rule(2, word(2, 2));
        due("one is the other's beginning", words.common(0, 1), 3);
        due("one is the other's beginning", words.common(4, 3), 10);
        GrowthWords zeros = new GrowthWords();
        zeros.rule(0, word(0, 0));
        due("not behind the end of the first", zeros.common(0, 1), 1);
        due("not behind the end of the second", zeros.common(1, 0), 1);
        GrowthWords shorter = shortAgain();
        shorter.rule(2, word(2, 2));
        due("letters of before in the first", shorter.common(0, 1), 1);
        due("letters of before in the second", shorter.common(1, 0), 1);
        words.rule(2, word(3));
        due("but the last", words.common(0, 1), 2);
        words.rule(0, word(4));
        due("not the first", words.common(0, 1), 0);
        GrowthWords later = beginning(0, 1, 2, 3);
        later.rule(1, word(5));
        due("nothing behind the first other", later.common(0, 1), 1);
    }

    // ---- Promise 12 ----

    private static void mirrors() {
        due("no letter", vanishing().mirrored(1), 1);
        due("one letter", beginning(5).mirrored(0), 1);
        for (int length = 2; length <= 8; length++) {
            due(length + " letters", beginning(zeros(length)).mirrored(0), 1);
            for (int place = 0; place < length; place++) {
                int[] letters = zeros(length);
                letters[place] = 1;
                boolean middle = length - 1 - place == place;
                due(length + " letters, another at " + place, beginning(letters).mirrored(0), middle ? 1 : 0);
            }
        }
        due("3000 letters", zerosInGeneration5(3000).mirrored(5), 1);
        due("3000 letters, the first is another", turnsAndZeros(1).mirrored(5), 0);
        due("3000 letters, the last is another", zerosAndLast().mirrored(5), 0);
        due("letters of before", shortAgain().mirrored(0), 1);
    }

    // ---- Promise 13 ----

    private static void kindsK() {
        GrowthWords words = beginning(0, 1, 2, 3, 4, 5, 0, 1);
        for (int k : new int[] {0, 4, -1, 8, MIN, MAX}) {
            due("kinds(0, " + k + ")", words.kinds(0, k), -3);
            due("no letters, kinds(1, " + k + ")", vanishing().kinds(1, k), -3);
        }
        for (int k = 1; k <= 3; k++) {
            due("kinds(0, " + k + ")", words.kinds(0, k), 6);
        }
    }

    private static void kindsOfAllLengths() {
        for (int k = 1; k <= 3; k++) {
            due("no letter", vanishing().kinds(1, k), 0);
            due("one letter", beginning(5).kinds(0, k), k == 1 ? 1 : 0);
            due("as many letters as k", beginning(zeros(k)).kinds(0, k), 1);
            due("one fewer than k", beginning(zeros(k)).kinds(0, k + 1), k == 3 ? -3 : 0);
            due("3000 letters", zerosInGeneration5(3000).kinds(5, k), 1);
            due("3000 letters, the first is another", turnsAndZeros(1).kinds(5, k), 2);
            due("3000 letters, the last is another", zerosAndLast().kinds(5, k), 2);
            due("letters of before", shortAgain().kinds(0, k), k == 1 ? 1 : 0);
        }
        due("generation 12 of 3000 letters, 0, 1, 2", lastFull().kinds(12, 1), 3);
        due("generation 12 of 3000 letters, all but 10, 21, 22", lastFull().kinds(12, 2), 6);
        due("generation 12 of 3000 letters", lastFull().kinds(12, 3), 9);
        due("one at the end", beginning(0, 0, 0, 0, 0, 0, 0, 1).kinds(0, 3), 2);
        due("the same letters in another order", beginning(0, 1, 2, 0, 2, 1, 0).kinds(0, 3), 5);
        due("numbers apart", beginning(1, 0, 1, 1, 0, 0, 0).kinds(0, 2), 4);
    }

    // ---- Promise 14 ----

    private static void pointLetters() {
        GrowthWords words = drawing(0, 0, 1, 0);
        for (int letters : new int[] {0, -1, -2, MIN}) {
            due("point(0, " + letters + ")", words.point(0, letters), at(0, 0));
        }
        due("point(0, 1)", words.point(0, 1), at(1, 0));
        due("point(0, 3)", words.point(0, 3), at(2, 0));
        for (int letters : new int[] {4, 5, 9, MAX}) {
            due("point(0, " + letters + ")", words.point(0, letters), at(2, 1));
        }
        for (int letters : new int[] {0, -1, 1, MIN, MAX}) {
            due("no letters, point(1, " + letters + ")", vanishing().point(1, letters), at(0, 0));
        }
        GrowthWords full = zerosInGeneration5(3000);
        full.action(0, 1);
        due("2999 of 3000 letters", full.point(5, 2999), at(2999, 0));
        due("3000 letters", full.point(5, 3000), at(3000, 0));
        due("3001 of 3000 letters", full.point(5, 3001), at(3000, 0));
        GrowthWords shorter = shortAgain();
        shorter.action(2, 1);
        due("letters of before", shorter.point(0, MAX), at(1, 0));
    }

    private static void pointFarthest() {
        GrowthWords right = zerosInGeneration5(3000);
        right.action(0, 1);
        due("x 3000", right.point(5, MAX), 8192 * 7096 + 4096);
        GrowthWords one = turnsAndZeros(1);
        one.action(5, 2);
        due("y 2999", one.point(5, MAX), 8192 * 4096 + 7095);
        one.action(5, 3);
        due("y -2999", one.point(5, MAX), 8192 * 4096 + 1097);
        GrowthWords two = turnsAndZeros(2);
        two.action(5, 2);
        due("x -2998", two.point(5, MAX), 8192 * 1098 + 4096);
        due("x -1, y -1", drawing(1, 1, 0, 1, 0).point(0, 5), 8192 * 4095 + 4095);
    }

    // ---- Promise 15 ----

    private static void directionAfterAll() {
        due("no letter", vanishing().direction(1), 0);
        due("the first counts", drawing(1, 0, 0).direction(0), 1);
        due("the last counts", drawing(0, 0, 1).direction(0), 1);
        due("all four", drawing(1, 1, 1, 1).direction(0), 0);
        due("all four back", drawing(2, 2, 2, 2).direction(0), 0);
        due("one and one back", drawing(1, 2).direction(0), 0);
        due("one back and one", drawing(2, 1).direction(0), 0);
        GrowthWords three = turnsAndZeros(3);
        three.action(5, 3);
        due("3000 letters", three.direction(5), 1);
        GrowthWords full = zerosInGeneration5(3000);
        full.action(0, 2);
        due("3000 turns", full.direction(5), 0);
        GrowthWords one = zerosInGeneration5(2999);
        one.action(0, 3);
        due("2999 turns back", one.direction(5), 1);
        GrowthWords shorter = shortAgain();
        shorter.action(2, 2);
        due("letters of before", shorter.direction(0), 1);
    }

    // ---- Promise 16 ----

    private static void firstPointCounted() {
        due("no letter", vanishing().extent(1), 0);
        due("one to the right", drawing(0).extent(0), 4096);
        due("one up", drawing(1, 0).extent(0), 1);
        due("one to the left", drawing(1, 1, 0).extent(0), 4096);
        due("one down", drawing(2, 0).extent(0), 1);
        due("right and up", drawing(0, 0, 1, 0).extent(0), 4096 * 2 + 1);
        due("left and down", drawing(2, 0, 2, 0, 0).extent(0), 4096 * 2 + 1);
    }

    private static void extentOfAllPoints() {
        due("there and back", drawing(0, 0, 1, 1, 0, 0).extent(0), 4096 * 2);
        due("up and back", drawing(1, 0, 0, 1, 1, 0, 0).extent(0), 2);
        due("both sides of the first x", drawing(0, 1, 1, 0, 0).extent(0), 4096 * 2);
        due("both sides of the first y", drawing(2, 0, 1, 1, 0, 0).extent(0), 2);
        due("the last step", drawing(1, 1, 1, 0, 1, 0).extent(0), 4096 + 1);
        GrowthWords right = zerosInGeneration5(3000);
        right.action(0, 1);
        due("x to 3000", right.extent(5), 4096 * 3000);
        GrowthWords one = turnsAndZeros(1);
        one.action(5, 2);
        due("y to 2999", one.extent(5), 2999);
        one.action(5, 3);
        due("y to -2999", one.extent(5), 2999);
        GrowthWords two = turnsAndZeros(2);
        two.action(5, 3);
        due("x to -2998", two.extent(5), 4096 * 2998);
        GrowthWords shorter = shortAgain();
        shorter.action(2, 1);
        due("letters of before", shorter.extent(0), 4096);
    }

    // ---- The sentences ----

    private static void changes() {
        sentence("Promise 1", "As named above.", PromisesBoundariesTest::newObject);
        sentence("Promise 2", "letter is not 0 to 5: -1", PromisesBoundariesTest::ruleLetter);
        sentence("Promise 2", "word is not the number of a word of 0 to 4 letters: -2.",
            PromisesBoundariesTest::ruleWord);
        sentence("Promise 2", "Else answers its length.", PromisesBoundariesTest::ruleAnswer);
        sentence("Promise 3", "word is not the number of a word of 1 to 8 letters: -1.",
            PromisesBoundariesTest::beginWord);
        sentence("Promise 3", "Else answers its length.", PromisesBoundariesTest::beginAnswer);
        sentence("Promise 4", "letter is not 0 to 5: -1", PromisesBoundariesTest::actionLetter);
        sentence("Promise 4", "action is not 0 to 3: -2.", PromisesBoundariesTest::actionAction);
        sentence("Promise 4", "Else answers the action that it had.", PromisesBoundariesTest::actionAnswer);
    }

    private static void questions() {
        sentence("Promise 5", "How many letters generation n has.", PromisesBoundariesTest::lengths);
        sentence("Promise 6", "there is none: -3.", PromisesBoundariesTest::noLetterAtPlace);
        sentence("Promise 7", "at the places from 'from' to 'to' - 1", PromisesBoundariesTest::countToIsNotCounted);
        sentence("Promise 7", "as far as there are such places", PromisesBoundariesTest::countAsFarAsThereArePlaces);
        sentence("Promise 7", "letter is not 0 to 5: -3.", PromisesBoundariesTest::countLetter);
        sentence("Promise 8", "The least place p that is at least 'from'", PromisesBoundariesTest::findAtLeastFrom);
        sentence("Promise 8", "word is not the number of a word of 1 to 4 letters: -3",
            PromisesBoundariesTest::findWord);
        sentence("Promise 8", "there is no such place: -4.", PromisesBoundariesTest::findNowhere);
        sentence("Promise 9", "At how many places of generation n a word stands (they may overlap)",
            PromisesBoundariesTest::occurrencesOverlap);
        sentence("Promise 9", "word is not the number of a word of 1 to 4 letters: -3.",
            PromisesBoundariesTest::occurrencesWord);
        sentence("Promise 10", "The greatest number of equal letters directly behind one another",
            PromisesBoundariesTest::runs);
        sentence("Promise 11",
            "How many letters generations n and m have in common at their beginnings, place by place.",
            PromisesBoundariesTest::commons);
        sentence("Promise 12", "1 if generation n read from its end is the same word, else 0.",
            PromisesBoundariesTest::mirrors);
        sentence("Promise 13", "k is not 1 to 3: -3.", PromisesBoundariesTest::kindsK);
        sentence("Promise 13", "How many different words of k letters stand in generation n",
            PromisesBoundariesTest::kindsOfAllLengths);
        sentence("Promise 14", "(fewer than 0 count as 0, more than there are as all)",
            PromisesBoundariesTest::pointLetters);
        sentence("Promise 14", "the pen is at (x, y): 8192 * (x + 4096) + y + 4096.",
            PromisesBoundariesTest::pointFarthest);
        sentence("Promise 15", "The pen's direction after all letters of generation n.",
            PromisesBoundariesTest::directionAfterAll);
        sentence("Promise 16", "the first point counted, too", PromisesBoundariesTest::firstPointCounted);
        sentence("Promise 16", "the pen comes to points with x from x0 to x1 and y from y0 to y1",
            PromisesBoundariesTest::extentOfAllPoints);
    }

    public static void main(String[] args) {
        changes();
        questions();
        end();
    }
}
