/** One group of checks for each promise of the document; what is due is worked out by hand. */
public final class PromisesTest extends Checks {
    private static void newObject() {
        GrowthWords words = new GrowthWords();
        for (int n = 0; n <= 12; n++) {
            holds("1: new", words, n, 0);
        }
        due("1: point", words.point(12, 1), ORIGIN);
        due("1: direction", words.direction(12), 0);
        due("1: extent", words.extent(12), 0);
        for (int letter = 0; letter < 6; letter++) {
            due("1: action of " + letter, words.action(letter, 0), 0);
        }
        due("1: begin", words.begin(word(5, 4, 3, 2, 1, 0)), 6);
        holds("1: rules at first", words, 1, 5, 4, 3, 2, 1, 0);
        holds("1: rules at first", words, 12, 5, 4, 3, 2, 1, 0);
        holds("1: another object", new GrowthWords(), 0, 0);
    }

    private static void rule() {
        GrowthWords words = beginning(0, 1, 2, 3, 4);
        due("2: 0 letters", words.rule(0, 0), 0);
        due("2: 1 letter", words.rule(1, 6), 1);
        due("2: 2 letters", words.rule(2, word(1, 0)), 2);
        due("2: 3 letters", words.rule(3, word(3, 4, 5)), 3);
        due("2: 4 letters", words.rule(4, word(0, 5, 4, 0)), 4);
        holds("2: rules", words, 1, 5, 1, 0, 3, 4, 5, 0, 5, 4, 0);
        holds("2: rules twice", words, 2, 5, 5, 3, 4, 5, 0, 5, 4, 0, 5, 5, 0, 5, 4, 0);
        due("2: greatest word", words.rule(5, 2400), 4);
        due("2: shorter again", words.rule(4, word(2)), 1);
        holds("2: shorter again", words, 1, 5, 1, 0, 3, 4, 5, 2);
        holds("2: first word stays", words, 0, 0, 1, 2, 3, 4);

        GrowthWords refusing = beginning(0, 1, 2, 3, 4, 5);
        for (int letter : new int[] {-1, 6, 7, MIN, MAX}) {
            due("2: rule(" + letter + ", 8)", refusing.rule(letter, 8), -1);
            due("2: letter before word", refusing.rule(letter, 7), -1);
        }
        int[] noWords = {-1, -8, 7, 14, 49, 50, 343, 344, 2394, 2401, 2402, word(0, 0, 0, 0, 0), MIN, MAX};
        for (int letter = 0; letter < 6; letter++) {
            for (int number : noWords) {
                due("2: rule(" + letter + ", " + number + ")", refusing.rule(letter, number), -2);
            }
        }
        holds("2: refused", refusing, 12, 0, 1, 2, 3, 4, 5);
    }

    private static void begin() {
        GrowthWords words = new GrowthWords();
        due("3: rule", words.rule(3, word(4, 4)), 2);
        due("3: 1 letter", words.begin(word(3)), 1);
        holds("3: 1 letter", words, 0, 3);
        holds("3: rules stay", words, 1, 4, 4);
        for (int length = 2; length <= 8; length++) {
            int[] letters = new int[length];
            for (int place = 0; place < length; place++) {
                letters[place] = (place * 5 + length) % 6;
            }
            due("3: " + length + " letters", words.begin(word(letters)), length);
            holds("3: " + length + " letters", words, 0, letters);
        }
        due("3: greatest word", words.begin(5764800), 8);
        holds("3: greatest word", words, 0, 5, 5, 5, 5, 5, 5, 5, 5);
        due("3: least word of 8", words.begin(960800), 8);
        holds("3: least word of 8", words, 0, 0, 0, 0, 0, 0, 0, 0, 0);
        due("3: shorter again", words.begin(word(2, 1)), 2);
        holds("3: shorter again", words, 12, 2, 1);
        int[] noWords = {0, -1, -3, 7, 49, 50, 5764801, 5764800 - 6, word(0, 0, 0, 0, 0, 0, 0, 0, 0), MIN, MAX};
        for (int number : noWords) {
            due("3: begin(" + number + ")", words.begin(number), -1);
        }
        holds("3: refused", words, 0, 2, 1);
        holds("3: refused", words, 12, 2, 1);
    }

    private static void action() {
        GrowthWords words = new GrowthWords();
        for (int letter = 0; letter < 6; letter++) {
            due("4: first", words.action(letter, letter % 4), 0);
        }
        for (int letter = 0; letter < 6; letter++) {
            due("4: the one before", words.action(letter, 3), letter % 4);
            due("4: the one before", words.action(letter, 1), 3);
        }
        for (int letter : new int[] {-1, 6, MIN, MAX}) {
            due("4: action(" + letter + ", 0)", words.action(letter, 0), -1);
            due("4: letter before action", words.action(letter, 4), -1);
        }
        for (int letter = 0; letter < 6; letter++) {
            for (int action : new int[] {-1, 4, MIN, MAX}) {
                due("4: action(" + letter + ", " + action + ")", words.action(letter, action), -2);
            }
            due("4: refused", words.action(letter, 1), 1);
        }
        due("4: used by drawing", words.point(0, 1), at(1, 0));
    }

    private static void length() {
        GrowthWords words = fibonacci();
        int[] lengths = {1, 2, 3, 5, 8, 13, 21, 34, 55, 89, 144, 233, 377};
        for (int n = 0; n <= 12; n++) {
            due("5: length(" + n + ")", words.length(n), lengths[n]);
        }
        for (int n : new int[] {-1, 13, MIN, MAX}) {
            due("5: length(" + n + ")", words.length(n), -1);
        }
        GrowthWords longer = fourfold();
        due("5: length(4)", longer.length(4), 1024);
        for (int n = 5; n <= 12; n++) {
            due("5: too long, length(" + n + ")", longer.length(n), -2);
        }
        due("5: too long no more", longer.rule(0, 0), 0);
        holds("5: empty", longer, 1);
        holds("5: empty", longer, 12);
    }

    /** Generation 5 has 3000 letters and, where the letter 5 stays, one more. */
    private static void mostLetters() {
        GrowthWords words = beginning(0, 0, 1);
        words.rule(0, word(0, 0, 0, 0));
        words.rule(1, word(0, 0, 0, 2));
        words.rule(2, word(0, 0, 3));
        words.rule(3, word(0, 0, 0, 4));
        words.rule(4, word(0, 0, 5));
        words.rule(5, 0);
        due("5: length(4)", words.length(4), 751);
        due("5: 3000 letters", words.length(5), 3000);
        due("6: 3000 letters", words.letterAt(5, 2999), 0);
        due("6: 3000 letters", words.letterAt(5, 3000), -3);
        due("9: 3000 letters", words.occurrences(5, word(0, 0, 0, 0)), 2997);
        due("10: 3000 letters", words.run(5), 3000);
        due("4: 3000 letters", words.action(0, 1), 0);
        due("14: 3000 letters", words.point(5, MAX), at(3000, 0));
        due("16: 3000 letters", words.extent(5), 4096 * 3000);
        due("5: 12000 letters", words.length(6), -2);
        words.rule(5, word(5));
        due("5: 3001 letters", words.length(5), -2);
        due("5: before 3001 letters", words.length(4), 751);
    }

    /** 4096 letters in generation 5 that all would be gone in generation 6. */
    private static void tooLongForEver() {
        GrowthWords words = beginning(0, 0, 0, 0);
        for (int letter = 0; letter < 5; letter++) {
            int next = letter + 1;
            words.rule(letter, word(next, next, next, next));
        }
        words.rule(5, 0);
        due("5: before", words.length(4), 1024);
        for (int n = 5; n <= 12; n++) {
            due("5: once too long, length(" + n + ")", words.length(n), -2);
        }
        words.begin(word(0, 0));
        due("5: just short enough", words.length(5), 2048);
        due("5: gone", words.length(6), 0);
        due("5: gone", words.length(12), 0);
    }

    private static void letterAt() {
        GrowthWords words = fibonacci();
        holds("6: fibonacci", words, 4, 0, 1, 0, 0, 1, 0, 1, 0);
        for (int place : new int[] {-1, 8, MIN, MAX}) {
            due("6: letterAt(4, " + place + ")", words.letterAt(4, place), -3);
        }
        due("6: n before place", words.letterAt(13, -1), -1);
        due("6: n before place", words.letterAt(-1, 0), -1);
        due("6: too long before place", fourfold().letterAt(5, -1), -2);
    }

    private static void count() {
        GrowthWords words = fibonacci();
        due("7: all", words.count(4, 0, 0, 8), 5);
        due("7: all", words.count(4, 1, 0, 8), 3);
        due("7: none", words.count(4, 5, 0, 8), 0);
        due("7: from is counted", words.count(4, 1, 4, 5), 1);
        due("7: to is not counted", words.count(4, 1, 2, 4), 0);
        due("7: widest", words.count(4, 0, MIN, MAX), 5);
        due("7: before the beginning", words.count(4, 0, MIN, 0), 0);
        due("7: first place", words.count(4, 0, -5, 1), 1);
        due("7: last place", words.count(4, 0, 7, MAX), 1);
        due("7: behind the end", words.count(4, 0, 8, MAX), 0);
        due("7: no places", words.count(4, 0, 3, 3), 0);
        due("7: other way round", words.count(4, 0, 5, 2), 0);
        due("7: other way round", words.count(4, 0, MAX, MIN), 0);
        for (int letter : new int[] {-1, 6, MIN, MAX}) {
            due("7: letter " + letter, words.count(4, letter, 0, 8), -3);
            due("7: letter before places", words.count(4, letter, 5, 2), -3);
        }
        due("7: n before letter", words.count(13, 6, 0, 8), -1);
        due("7: n before letter", words.count(-1, 6, 0, 8), -1);
        due("7: too long before letter", fourfold().count(5, 6, 0, 8), -2);
    }

    private static void find() {
        GrowthWords words = fibonacci();
        due("8: at the beginning", words.find(4, word(0, 1), 0), 0);
        due("8: from is counted", words.find(4, word(0, 1), 3), 3);
        due("8: behind from", words.find(4, word(0, 1), 1), 3);
        due("8: below 0", words.find(4, word(1, 0), MIN), 1);
        due("8: 1 letter", words.find(4, word(1), 5), 6);
        due("8: 3 letters", words.find(4, word(1, 0, 1), 0), 4);
        due("8: 4 letters, the last place", words.find(4, word(1, 0, 1, 0), 4), 4);
        due("8: behind the last place", words.find(4, word(1, 0, 1, 0), 5), -4);
        due("8: over the end", words.find(4, word(1, 0, 0), 5), -4);
        due("8: over the end", words.find(4, word(0), 8), -4);
        due("8: far behind", words.find(4, word(0), MAX), -4);
        due("8: not there", words.find(4, word(1, 1), 0), -4);
        due("8: longer than all", words.find(0, word(0, 1), 0), -4);
        due("8: not read backwards", beginning(2, 3, 4).find(0, word(4, 3), 0), -4);
        for (int number : new int[] {0, -1, 7, 50, 2401, word(0, 0, 0, 0, 0), MIN, MAX}) {
            due("8: word " + number, words.find(4, number, 0), -3);
            due("8: word before place", words.find(4, number, MAX), -3);
        }
        due("8: n before word", words.find(13, 0, 0), -1);
        due("8: n before word", words.find(-1, 0, 0), -1);
        due("8: too long before word", fourfold().find(5, 0, 0), -2);
    }

    private static void occurrences() {
        GrowthWords words = fibonacci();
        due("9: 1 letter", words.occurrences(4, word(0)), 5);
        due("9: 2 letters", words.occurrences(4, word(1, 0)), 3);
        due("9: 3 letters", words.occurrences(4, word(0, 1, 0)), 3);
        due("9: 4 letters", words.occurrences(4, word(0, 1, 0, 1)), 1);
        due("9: none", words.occurrences(4, word(1, 1)), 0);
        due("9: longer than all", words.occurrences(1, word(0, 1, 0)), 0);
        due("9: overlapping", beginning(3, 3, 3, 3).occurrences(0, word(3, 3)), 3);
        due("9: the whole", beginning(2, 3, 4, 5).occurrences(0, word(2, 3, 4, 5)), 1);
        for (int number : new int[] {0, -1, 7, 50, 2401, word(0, 0, 0, 0, 0), MIN, MAX}) {
            due("9: word " + number, words.occurrences(4, number), -3);
        }
        due("9: n before word", words.occurrences(13, 0), -1);
        due("9: n before word", words.occurrences(-1, 0), -1);
        due("9: too long before word", fourfold().occurrences(5, 0), -2);
    }

    private static void run() {
        due("10: fibonacci", fibonacci().run(4), 2);
        due("10: 1 letter", new GrowthWords().run(0), 1);
        due("10: all different", beginning(0, 1, 2, 0, 1, 2).run(0), 1);
        due("10: at the beginning", beginning(5, 5, 5, 1, 1).run(0), 3);
        due("10: in the middle", beginning(5, 1, 1, 1, 0, 0).run(0), 3);
        due("10: at the end", beginning(1, 0, 0, 2, 2, 2, 2).run(0), 4);
        due("10: all equal", fourfold().run(4), 1024);
        GrowthWords empty = new GrowthWords();
        empty.rule(0, 0);
        due("10: empty", empty.run(1), 0);
        due("10: n", empty.run(13), -1);
        due("10: n", empty.run(-1), -1);
        due("10: too long", fourfold().run(5), -2);
    }

    private static void common() {
        GrowthWords words = fibonacci();
        due("11: one begins the other", words.common(4, 6), 8);
        due("11: other way round", words.common(6, 4), 8);
        due("11: the same generation", words.common(5, 5), 13);
        GrowthWords differing = beginning(0, 1, 2, 3, 4);
        differing.rule(2, word(5));
        due("11: as far as the first that differs", differing.common(0, 1), 2);
        due("11: the rest is the same", differing.common(1, 2), 5);
        differing.rule(0, word(1));
        due("11: nothing", differing.common(1, 0), 0);
        GrowthWords empty = new GrowthWords();
        empty.rule(0, 0);
        due("11: empty", empty.common(0, 1), 0);
        due("11: both empty", empty.common(2, 1), 0);
        GrowthWords longer = fourfold();
        due("11: first is no generation", longer.common(-1, 0), -1);
        due("11: second is no generation", longer.common(0, 13), -1);
        due("11: both are none", longer.common(MIN, MAX), -1);
        due("11: first is too long", longer.common(5, 4), -2);
        due("11: second is too long", longer.common(4, 5), -2);
        due("11: both are too long", longer.common(12, 5), -2);
        due("11: -1 before -2", longer.common(5, 13), -1);
        due("11: -1 before -2", longer.common(-1, 5), -1);
    }

    private static void mirrored() {
        due("12: odd", beginning(0, 1, 2, 1, 0).mirrored(0), 1);
        due("12: even", beginning(3, 5, 5, 3).mirrored(0), 1);
        due("12: ends differ", beginning(0, 1, 1, 2).mirrored(0), 0);
        due("12: middle differs", beginning(0, 1, 2, 0).mirrored(0), 0);
        due("12: beside the middle", beginning(0, 1, 2, 3, 0).mirrored(0), 0);
        due("12: two letters", beginning(0, 1).mirrored(0), 0);
        due("12: one letter", new GrowthWords().mirrored(12), 1);
        GrowthWords words = fibonacci();
        due("12: 010", words.mirrored(2), 1);
        due("12: 01001", words.mirrored(3), 0);
        words.rule(0, 0);
        due("12: empty", words.mirrored(1), 1);
        due("12: n", words.mirrored(13), -1);
        due("12: n", words.mirrored(-1), -1);
        due("12: too long", fourfold().mirrored(5), -2);
    }

    private static void kinds() {
        GrowthWords words = beginning(0, 1, 0, 1, 0, 0, 1, 2);
        due("13: kinds(0, 1)", words.kinds(0, 1), 3);
        due("13: kinds(0, 2)", words.kinds(0, 2), 4);
        due("13: kinds(0, 3)", words.kinds(0, 3), 5);
        due("13: all letters", beginning(0, 1, 2, 3, 4, 5).kinds(0, 1), 6);
        due("13: the whole word", beginning(3, 4, 5).kinds(0, 3), 1);
        due("13: longer than all", beginning(3, 4).kinds(0, 3), 0);
        GrowthWords longer = fourfold();
        due("13: all equal", longer.kinds(4, 3), 1);
        longer.rule(0, 0);
        due("13: empty", longer.kinds(1, 1), 0);
        for (int k : new int[] {0, -1, 4, MIN, MAX}) {
            due("13: k " + k, words.kinds(0, k), -3);
        }
        due("13: n before k", words.kinds(13, 0), -1);
        due("13: n before k", words.kinds(-1, 4), -1);
        due("13: too long before k", fourfold().kinds(5, 0), -2);
    }

    private static void point() {
        GrowthWords words = drawing(0, 1, 0, 1, 0, 0, 1, 0);
        int[] due = {at(0, 0), at(1, 0), at(1, 0), at(1, 1), at(1, 1), at(0, 1), at(-1, 1), at(-1, 1), at(-1, 0)};
        for (int letters = 0; letters < due.length; letters++) {
            due("14: point(0, " + letters + ")", words.point(0, letters), due[letters]);
        }
        due("14: fewer than 0", words.point(0, -1), ORIGIN);
        due("14: fewer than 0", words.point(0, MIN), ORIGIN);
        due("14: more than all", words.point(0, 9), at(-1, 0));
        due("14: more than all", words.point(0, MAX), at(-1, 0));
        due("14: down", drawing(2, 0, 0).point(0, 3), at(0, -2));
        due("14: down and back", drawing(2, 0, 2, 0, 0).point(0, 5), at(-2, -1));
        due("14: up round", drawing(1, 1, 1, 1, 0).point(0, 5), at(1, 0));
        due("14: down round", drawing(2, 2, 2, 2, 0).point(0, 5), at(1, 0));
        due("14: nothing happens", drawing(3, 4, 5, 0).point(0, 4), at(1, 0));
        GrowthWords grown = drawing(3);
        grown.rule(3, word(0, 1, 0));
        due("14: a later generation", grown.point(1, 3), at(1, 1));
        due("14: the first word", grown.point(0, 3), ORIGIN);
        due("14: n", words.point(13, 0), -1);
        due("14: n", words.point(-1, 0), -1);
        due("14: too long", fourfold().point(5, 0), -2);
    }

    private static void direction() {
        due("15: none", drawing(0, 3, 0).direction(0), 0);
        due("15: up", drawing(1).direction(0), 1);
        due("15: up twice", drawing(1, 0, 1).direction(0), 2);
        due("15: up three times", drawing(1, 1, 0, 1).direction(0), 3);
        due("15: up four times", drawing(1, 1, 1, 1).direction(0), 0);
        due("15: down", drawing(2).direction(0), 3);
        due("15: down twice", drawing(2, 2).direction(0), 2);
        due("15: down three times", drawing(2, 2, 2).direction(0), 1);
        due("15: down four times", drawing(2, 2, 2, 2).direction(0), 0);
        due("15: both", drawing(2, 1, 1).direction(0), 1);
        GrowthWords grown = drawing(3);
        grown.rule(3, word(1, 0, 1));
        due("15: a later generation", grown.direction(1), 2);
        grown.rule(3, 0);
        due("15: empty", grown.direction(1), 0);
        due("15: n", grown.direction(13), -1);
        due("15: n", grown.direction(-1), -1);
        due("15: too long", fourfold().direction(5), -2);
    }

    private static void extent() {
        due("16: no step", drawing(1, 2, 3).extent(0), 0);
        due("16: right", drawing(0, 0, 0).extent(0), 4096 * 3);
        due("16: up", drawing(1, 0, 0).extent(0), 2);
        due("16: left", drawing(1, 1, 0, 0).extent(0), 4096 * 2);
        due("16: down", drawing(2, 0, 0, 0).extent(0), 3);
        due("16: right and back past the first point", drawing(0, 1, 1, 0, 0, 0).extent(0), 4096 * 3);
        due("16: up and back past the first point", drawing(1, 0, 1, 1, 0, 0, 0).extent(0), 3);
        due("16: out and back", drawing(0, 0, 1, 1, 0, 0).extent(0), 4096 * 2);
        due("16: both ways", drawing(0, 2, 0, 0, 1, 0).extent(0), 4096 * 2 + 2);
        GrowthWords grown = drawing(3);
        grown.rule(3, word(0, 1, 0));
        due("16: a later generation", grown.extent(1), 4096 + 1);
        grown.rule(3, 0);
        due("16: empty", grown.extent(1), 0);
        due("16: n", grown.extent(13), -1);
        due("16: n", grown.extent(-1), -1);
        due("16: too long", fourfold().extent(5), -2);
    }

    public static void main(String[] args) {
        newObject();
        rule();
        begin();
        action();
        length();
        mostLetters();
        tooLongForEver();
        letterAt();
        count();
        find();
        occurrences();
        run();
        common();
        mirrored();
        kinds();
        point();
        direction();
        extent();
        end();
    }
}
