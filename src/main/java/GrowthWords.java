/** Words that grow by rules, generation by generation, and questions about them. */
public final class GrowthWords {
    private static final int LETTERS = 6;
    private static final int BASE = 7;
    private static final int RULE_ROOM = 4;
    private static final int FIRST_WORD_ROOM = 8;
    private static final int SOUGHT_ROOM = 4;
    private static final int LARGEST_KIND = 3;
    private static final int GENERATIONS = 13;
    private static final int GENERATION_ROOM = 3000;
    private static final int ACTIONS = 4;
    private static final int DIRECTIONS = 4;

    private static final int GO_ON = 1;
    private static final int TURN_UP = 2;
    private static final int TURN_DOWN = 3;

    private static final int NO_WORD = -1;
    private static final int NO_PLACE = -1;
    private static final int TOO_LONG = -1;

    // The rule of a letter begins at letter * RULE_ROOM.
    private final byte[] ruleLetters = new byte[LETTERS * RULE_ROOM];
    private final int[] ruleLengths = new int[LETTERS];
    private final int[] actions = new int[LETTERS];

    // Generation n begins at n * GENERATION_ROOM; all generations are held ready,
    // so that no question has anything to write.
    private final byte[] grown = new byte[GENERATIONS * GENERATION_ROOM];
    private final int[] lengths = new int[GENERATIONS];

    public GrowthWords() {
        for (int letter = 0; letter < LETTERS; letter++) {
            ruleLetters[letter * RULE_ROOM] = (byte) letter;
            ruleLengths[letter] = 1;
        }
        lengths[0] = 1;
        growAll();
    }

    public int rule(int letter, int word) {
        if (!isLetter(letter)) {
            return -1;
        }
        int length = wordLength(word, RULE_ROOM);
        if (length == NO_WORD) {
            return -2;
        }
        writeWord(word, length, ruleLetters, letter * RULE_ROOM);
        ruleLengths[letter] = length;
        growAll();
        return length;
    }

    public int begin(int word) {
        int length = wordLength(word, FIRST_WORD_ROOM);
        if (length < 1) {
            return -1;
        }
        writeWord(word, length, grown, 0);
        lengths[0] = length;
        growAll();
        return length;
    }

    public int action(int letter, int action) {
        if (!isLetter(letter)) {
            return -1;
        }
        if (action < 0 || action >= ACTIONS) {
            return -2;
        }
        int before = actions[letter];
        actions[letter] = action;
        return before;
    }

    public int length(int n) {
        int refusal = refusalOf(n);
        if (refusal != 0) {
            return refusal;
        }
        return lengths[n];
    }

    public int letterAt(int n, int place) {
        int refusal = refusalOf(n);
        if (refusal != 0) {
            return refusal;
        }
        if (place < 0 || place >= lengths[n]) {
            return -3;
        }
        return letterOf(n, place);
    }

    public int count(int n, int letter, int from, int to) {
        int refusal = refusalOf(n);
        if (refusal != 0) {
            return refusal;
        }
        if (!isLetter(letter)) {
            return -3;
        }
        int start = larger(from, 0);
        int end = smaller(to, lengths[n]);
        int found = 0;
        for (int place = start; place < end; place++) {
            if (letterOf(n, place) == letter) {
                found++;
            }
        }
        return found;
    }

    public int find(int n, int word, int from) {
        int refusal = refusalOf(n);
        if (refusal != 0) {
            return refusal;
        }
        int size = wordLength(word, SOUGHT_ROOM);
        if (size < 1) {
            return -3;
        }
        int place = placeOf(n, word, size, from);
        return place == NO_PLACE ? -4 : place;
    }

    public int occurrences(int n, int word) {
        int refusal = refusalOf(n);
        if (refusal != 0) {
            return refusal;
        }
        int size = wordLength(word, SOUGHT_ROOM);
        if (size < 1) {
            return -3;
        }
        int found = 0;
        for (int place = 0; place <= lengths[n] - size; place++) {
            if (wordOf(n, place, size) == word) {
                found++;
            }
        }
        return found;
    }

    public int run(int n) {
        int refusal = refusalOf(n);
        if (refusal != 0) {
            return refusal;
        }
        int longest = 0;
        int current = 0;
        int before = -1;
        for (int place = 0; place < lengths[n]; place++) {
            int letter = letterOf(n, place);
            current = letter == before ? current + 1 : 1;
            longest = larger(longest, current);
            before = letter;
        }
        return longest;
    }

    public int common(int n, int m) {
        if (!isGeneration(n) || !isGeneration(m)) {
            return -1;
        }
        if (lengths[n] == TOO_LONG || lengths[m] == TOO_LONG) {
            return -2;
        }
        int end = smaller(lengths[n], lengths[m]);
        int same = 0;
        while (same < end && letterOf(n, same) == letterOf(m, same)) {
            same++;
        }
        return same;
    }

    public int mirrored(int n) {
        int refusal = refusalOf(n);
        if (refusal != 0) {
            return refusal;
        }
        int last = lengths[n] - 1;
        for (int place = 0; place < last - place; place++) {
            if (letterOf(n, place) != letterOf(n, last - place)) {
                return 0;
            }
        }
        return 1;
    }

    public int kinds(int n, int k) {
        int refusal = refusalOf(n);
        if (refusal != 0) {
            return refusal;
        }
        if (k < 1 || k > LARGEST_KIND) {
            return -3;
        }
        int different = 0;
        for (int place = 0; place <= lengths[n] - k; place++) {
            int word = wordOf(n, place, k);
            // A word is counted at the first of its places alone.
            if (placeOf(n, word, k, 0) == place) {
                different++;
            }
        }
        return different;
    }

    public int point(int n, int letters) {
        int refusal = refusalOf(n);
        if (refusal != 0) {
            return refusal;
        }
        int end = smaller(letters, lengths[n]);
        int x = 0;
        int y = 0;
        int direction = 0;
        for (int place = 0; place < end; place++) {
            int action = actionOf(n, place);
            x += stepOfX(action, direction);
            y += stepOfY(action, direction);
            direction = turned(action, direction);
        }
        return 8192 * (x + 4096) + y + 4096;
    }

    public int direction(int n) {
        int refusal = refusalOf(n);
        if (refusal != 0) {
            return refusal;
        }
        int direction = 0;
        for (int place = 0; place < lengths[n]; place++) {
            int action = actionOf(n, place);
            direction = turned(action, direction);
        }
        return direction;
    }

    public int extent(int n) {
        int refusal = refusalOf(n);
        if (refusal != 0) {
            return refusal;
        }
        int x = 0;
        int leastX = 0;
        int greatestX = 0;
        int y = 0;
        int leastY = 0;
        int greatestY = 0;
        int direction = 0;
        for (int place = 0; place < lengths[n]; place++) {
            int action = actionOf(n, place);
            x += stepOfX(action, direction);
            y += stepOfY(action, direction);
            direction = turned(action, direction);
            leastX = smaller(leastX, x);
            greatestX = larger(greatestX, x);
            leastY = smaller(leastY, y);
            greatestY = larger(greatestY, y);
        }
        return 4096 * (greatestX - leastX) + (greatestY - leastY);
    }

    private static boolean isLetter(int letter) {
        return letter >= 0 && letter < LETTERS;
    }

    private static boolean isGeneration(int n) {
        return n >= 0 && n < GENERATIONS;
    }

    private static int smaller(int a, int b) {
        return a < b ? a : b;
    }

    private static int larger(int a, int b) {
        return a > b ? a : b;
    }

    /** The answer that refuses a question about generation n, or 0 if it may be asked. */
    private int refusalOf(int n) {
        if (!isGeneration(n)) {
            return -1;
        }
        return lengths[n] == TOO_LONG ? -2 : 0;
    }

    /** The length of the word with this number, or NO_WORD if none of up to 'most' letters has it. */
    private static int wordLength(int word, int most) {
        int rest = word;
        int length = 0;
        while (length < most && rest % BASE > 0) {
            rest /= BASE;
            length++;
        }
        // What is left over is a digit 0 inside, a letter too many, or a negative number.
        return rest == 0 ? length : NO_WORD;
    }

    private static void writeWord(int word, int length, byte[] target, int start) {
        int rest = word;
        for (int i = 0; i < length; i++) {
            target[start + i] = (byte) (rest % BASE - 1);
            rest /= BASE;
        }
    }

    private void growAll() {
        for (int n = 1; n < GENERATIONS; n++) {
            lengths[n] = growInto(n);
        }
    }

    /** Writes generation n from the one before it and answers its length, or TOO_LONG. */
    private int growInto(int n) {
        // Stays true for all later generations, even where the rules would make them short again.
        if (lengths[n - 1] == TOO_LONG) {
            return TOO_LONG;
        }
        int length = 0;
        for (int place = 0; place < lengths[n - 1]; place++) {
            int letter = letterOf(n - 1, place);
            if (length + ruleLengths[letter] > GENERATION_ROOM) {
                return TOO_LONG;
            }
            for (int i = 0; i < ruleLengths[letter]; i++) {
                grown[n * GENERATION_ROOM + length + i] = ruleLetters[letter * RULE_ROOM + i];
            }
            length += ruleLengths[letter];
        }
        return length;
    }

    private int letterOf(int n, int place) {
        return grown[n * GENERATION_ROOM + place];
    }

    private int actionOf(int n, int place) {
        return actions[letterOf(n, place)];
    }

    /** The number of the word of 'size' letters that stands in generation n from a place on. */
    private int wordOf(int n, int place, int size) {
        int word = 0;
        for (int i = size - 1; i >= 0; i--) {
            word = word * BASE + letterOf(n, place + i) + 1;
        }
        return word;
    }

    /** The first place, not before 'from', where a word of 'size' letters stands, or NO_PLACE. */
    private int placeOf(int n, int word, int size, int from) {
        int start = larger(from, 0);
        for (int place = start; place <= lengths[n] - size; place++) {
            if (wordOf(n, place, size) == word) {
                return place;
            }
        }
        return NO_PLACE;
    }

    private static int stepOfX(int action, int direction) {
        if (action != GO_ON) {
            return 0;
        }
        return direction == 0 ? 1 : direction == 2 ? -1 : 0;
    }

    private static int stepOfY(int action, int direction) {
        if (action != GO_ON) {
            return 0;
        }
        return direction == 1 ? 1 : direction == 3 ? -1 : 0;
    }

    private static int turned(int action, int direction) {
        if (action == TURN_UP) {
            return (direction + 1) % DIRECTIONS;
        }
        if (action == TURN_DOWN) {
            return (direction + DIRECTIONS - 1) % DIRECTIONS;
        }
        return direction;
    }
}
