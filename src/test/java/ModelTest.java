import java.util.HashSet;
import java.util.Set;

/** Long runs of calls, held against a model over strings that shares no code with the class. */
public final class ModelTest {
    private static final int OBJECTS = 600;
    private static final int CALLS = 512;
    private static final int[] ODD = {-1, -2, 6, 7, 13, 14, 50, 2400, 2401, 2801, 3000, 5764800, 5764801,
        Integer.MIN_VALUE, Integer.MIN_VALUE + 1, Integer.MAX_VALUE - 1, Integer.MAX_VALUE};

    private static final class Model {
        private final String[] rules = {"0", "1", "2", "3", "4", "5"};
        private final int[] actions = new int[6];
        private final String[] generations = new String[13];
        private String first = "0";

        Model() {
            grow();
        }

        private void grow() {
            String now = first;
            for (int n = 0; n <= 12; n++) {
                generations[n] = now;
                if (now == null) {
                    continue;
                }
                StringBuilder next = new StringBuilder();
                for (char letter : now.toCharArray()) {
                    next.append(rules[letter - '0']);
                }
                now = next.length() > 3000 ? null : next.toString();
            }
        }

        /** The word of a number, or null. */
        private static String word(int number, int least, int most) {
            if (number < 0) {
                return null;
            }
            String digits = number == 0 ? "" : Integer.toString(number, 7);
            if (digits.indexOf('0') >= 0 || digits.length() < least || digits.length() > most) {
                return null;
            }
            StringBuilder word = new StringBuilder();
            for (char digit : digits.toCharArray()) {
                word.insert(0, (char) (digit - 1));
            }
            return word.toString();
        }

        int rule(int letter, int number) {
            String word = word(number, 0, 4);
            if (letter < 0 || letter > 5) {
                return -1;
            }
            if (word == null) {
                return -2;
            }
            rules[letter] = word;
            grow();
            return word.length();
        }

        int begin(int number) {
            String word = word(number, 1, 8);
            if (word == null) {
                return -1;
            }
            first = word;
            grow();
            return word.length();
        }

        int action(int letter, int action) {
            if (letter < 0 || letter > 5) {
                return -1;
            }
            if (action < 0 || action > 3) {
                return -2;
            }
            int before = actions[letter];
            actions[letter] = action;
            return before;
        }

        int ask(int call, int n, int a, int b, int c) {
            if (n < 0 || n > 12 || call == 11 && (a < 0 || a > 12)) {
                return -1;
            }
            if (generations[n] == null || call == 11 && generations[a] == null) {
                return -2;
            }
            String now = generations[n];
            switch (call) {
                case 5: return now.length();
                case 6: return a < 0 || a >= now.length() ? -3 : now.charAt(a) - '0';
                case 7: return count(now, a, b, c);
                case 8: return find(now, word(a, 1, 4), b);
                case 9: return occurrences(now, word(a, 1, 4));
                case 10: return run(now);
                case 11: return common(now, generations[a]);
                case 12: return new StringBuilder(now).reverse().toString().equals(now) ? 1 : 0;
                case 13: return kinds(now, a);
                default: return draw(call, now, a);
            }
        }

        private static int count(String now, int letter, long from, long to) {
            if (letter < 0 || letter > 5) {
                return -3;
            }
            int found = 0;
            for (int place = 0; place < now.length(); place++) {
                if (place >= from && place <= to - 1 && now.charAt(place) - '0' == letter) {
                    found++;
                }
            }
            return found;
        }

        private static int find(String now, String word, int from) {
            if (word == null) {
                return -3;
            }
            int place = now.indexOf(word, from);
            return place < 0 ? -4 : place;
        }

        private static int occurrences(String now, String word) {
            if (word == null) {
                return -3;
            }
            int found = 0;
            for (int place = 0; place < now.length(); place++) {
                if (now.startsWith(word, place)) {
                    found++;
                }
            }
            return found;
        }

        private static int run(String now) {
            int longest = 0;
            for (int from = 0; from < now.length(); ) {
                int to = from;
                while (to < now.length() && now.charAt(to) == now.charAt(from)) {
                    to++;
                }
                longest = Math.max(longest, to - from);
                from = to;
            }
            return longest;
        }

        private static int common(String one, String other) {
            int length = Math.min(one.length(), other.length());
            while (!one.substring(0, length).equals(other.substring(0, length))) {
                length--;
            }
            return length;
        }

        private static int kinds(String now, int k) {
            if (k < 1 || k > 3) {
                return -3;
            }
            Set<String> words = new HashSet<>();
            for (int place = 0; place + k <= now.length(); place++) {
                words.add(now.substring(place, place + k));
            }
            return words.size();
        }

        /** A pen with its direction as a step (dx, dy): 14 is point, 15 direction, 16 extent. */
        private int draw(int call, String now, int letters) {
            int x = 0, y = 0, dx = 1, dy = 0, x0 = 0, x1 = 0, y0 = 0, y1 = 0;
            int end = call == 14 ? Math.max(0, Math.min(letters, now.length())) : now.length();
            for (char letter : now.substring(0, end).toCharArray()) {
                int action = actions[letter - '0'];
                int old = dx;
                if (action == 1) {
                    x += dx;
                    y += dy;
                } else if (action == 2) {
                    dx = -dy;
                    dy = old;
                } else if (action == 3) {
                    dx = dy;
                    dy = -old;
                }
                x0 = Math.min(x0, x);
                x1 = Math.max(x1, x);
                y0 = Math.min(y0, y);
                y1 = Math.max(y1, y);
            }
            if (call == 14) {
                return 8192 * (x + 4096) + y + 4096;
            }
            if (call == 15) {
                return dx == 1 ? 0 : dy == 1 ? 1 : dx == -1 ? 2 : 3;
            }
            return 4096 * (x1 - x0) + (y1 - y0);
        }
    }

    // A generator of our own, so that every run of the test makes the same calls.
    private static long seed = 20240607L;

    private static int below(int bound) {
        seed = seed * 6364136223846793005L + 1442695040888963407L;
        return (int) ((seed >>> 33) % bound);
    }

    private static int or(int usual) {
        return below(25) == 0 ? ODD[below(ODD.length)] : usual;
    }

    private static int someWord(int length, int letters) {
        int number = 0;
        for (int i = 0; i < length; i++) {
            number = number * 7 + 1 + below(letters);
        }
        return or(number);
    }

    private static int ask(GrowthWords words, int call, int n, int a, int b, int c) {
        switch (call) {
            case 5: return words.length(n);
            case 6: return words.letterAt(n, a);
            case 7: return words.count(n, a, b, c);
            case 8: return words.find(n, a, b);
            case 9: return words.occurrences(n, a);
            case 10: return words.run(n);
            case 11: return words.common(n, a);
            case 12: return words.mirrored(n);
            case 13: return words.kinds(n, a);
            case 14: return words.point(n, a);
            case 15: return words.direction(n);
            default: return words.extent(n);
        }
    }

    private static int wrong = 0;
    private static final Set<String> seen = new HashSet<>();

    private static void due(int object, int promise, String arguments, int got, int want) {
        seen.add(promise + ":" + Math.min(want, 0));
        if (got != want && wrong++ < 20) {
            System.out.println("object " + object + ", promise " + promise + " " + arguments
                + " answered " + got + ", due is " + want);
        }
    }

    private static void change(int object, GrowthWords words, Model model, int call, int letters) {
        int letter = or(below(letters));
        if (call == 2) {
            int word = someWord(below(3) == 0 ? below(5) : 1 + below(2), letters);
            due(object, 2, letter + ", " + word, words.rule(letter, word), model.rule(letter, word));
        } else if (call == 3) {
            int word = someWord(1 + below(8), letters);
            due(object, 3, "" + word, words.begin(word), model.begin(word));
        } else {
            int action = or(below(4));
            due(object, 4, letter + ", " + action, words.action(letter, action), model.action(letter, action));
        }
    }

    private static void question(int object, GrowthWords words, Model model, int letters) {
        int call = 5 + below(12);
        int n = or(below(13));
        int most = model.generations[below(13)] == null ? 3000 : 40;
        int a = or(below(most));
        if (call == 7) {
            a = or(below(letters));
        } else if (call == 8 || call == 9) {
            a = someWord(1 + below(4), letters);
        } else if (call == 11) {
            a = or(below(13));
        } else if (call == 13) {
            a = or(below(4));
        }
        int b = or(below(most));
        int c = or(below(most));
        due(object, call, n + ", " + a + ", " + b + ", " + c,
            ask(words, call, n, a, b, c), model.ask(call, n, a, b, c));
    }

    /** The last generation with all the letters that it may have: every question looks at its last place. */
    private static void fullest() {
        GrowthWords words = new GrowthWords();
        Model model = new Model();
        int[] changes = {0, 10, 1, 1, 2, 16};
        for (int i = 0; i < changes.length; i += 2) {
            int letter = changes[i];
            int word = changes[i + 1];
            due(-1, 2, letter + ", " + word, words.rule(letter, word), model.rule(letter, word));
            due(-1, 4, letter + ", " + (letter + 1), words.action(letter, letter + 1), model.action(letter, letter + 1));
        }
        int first = Integer.parseInt("3222222", 7);
        due(-1, 3, "" + first, words.begin(first), model.begin(first));
        due(-1, 5, "12", words.length(12), 3000);
        for (int call = 5; call <= 16; call++) {
            for (int a : new int[] {0, 1, 2, 3, 10, 12, 16, 2998, 2999, 3000, 3001, Integer.MAX_VALUE}) {
                int b = 2990;
                int c = Integer.MAX_VALUE;
                due(-1, call, "12, " + a + ", " + b + ", " + c,
                    ask(words, call, 12, a, b, c), model.ask(call, 12, a, b, c));
            }
        }
    }

    /** A run that never came to an answer would not test it. */
    private static void wasSeen(String answers) {
        for (String answer : answers.split(" ")) {
            if (!seen.contains(answer)) {
                wrong++;
                System.out.println("no run came to " + answer);
            }
        }
    }

    public static void main(String[] args) {
        fullest();
        for (int object = 0; object < OBJECTS; object++) {
            GrowthWords words = new GrowthWords();
            Model model = new Model();
            int letters = 2 + below(5);
            for (int call = 0; call < CALLS; call++) {
                boolean changes = call < 8 || below(8) == 0;
                if (changes) {
                    change(object, words, model, 2 + below(3), letters);
                } else {
                    question(object, words, model, letters);
                }
            }
        }
        wasSeen("2:0 2:-1 2:-2 3:0 3:-1 4:0 4:-1 4:-2 6:-3 7:-3 8:-3 8:-4 9:-3 13:-3");
        for (int promise = 5; promise <= 16; promise++) {
            wasSeen(promise + ":0 " + promise + ":-1 " + promise + ":-2");
        }
        System.out.println(wrong == 0 ? "all answers are as due" : wrong + " answers are not as due");
        if (wrong != 0) {
            System.exit(1);
        }
    }
}
