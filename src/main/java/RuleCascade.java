/**
 * Rules that change, delete and insert letters between certain neighbours, done one after the
 * other, and the words that give a certain result.
 *
 * <p>Inside, a word is held as its code (1 for the empty word, then 4 times the code so far plus
 * the next letter). The words of n letters are then the codes from 4^n up to 2 * 4^n - 1, in the
 * order in which {@link #source} counts them.
 */
public final class RuleCascade {
    public static final int BAD_ARG = -1;
    public static final int FULL = -2;
    public static final int NONE = -4;

    private static final int CHANGE = 0;
    private static final int DELETE = 1;
    private static final int INSERT = 2;

    private static final int LETTERS = 4;
    private static final int EDGE = 4;
    private static final int SIDES = 1024;
    private static final int SET_BITS = 5;
    private static final int MOST_RULES = 5;
    private static final int MOST_LETTERS = 12;
    private static final int MOST_ASKED_LETTERS = 5;
    private static final int MOST_ASKED_WORDS = 1024;

    private static final int EMPTY_WORD = 1;
    private static final int LEAST_FULL_WORD = 1 << (2 * MOST_LETTERS);

    private final int[] kinds = new int[MOST_RULES];
    private final int[] xs = new int[MOST_RULES];
    private final int[] ys = new int[MOST_RULES];
    private final int[] sideSets = new int[MOST_RULES];
    private int ruleCount = 0;

    private int word = EMPTY_WORD;

    /** Scratch of images alone: the different results found so far. */
    private final int[] found = new int[MOST_ASKED_WORDS];

    public RuleCascade() {
    }

    public int rule(int kind, int x, int y, int sides) {
        if (kind < CHANGE || kind > INSERT) {
            return BAD_ARG;
        }
        if (kind != INSERT && !isLetter(x)) {
            return BAD_ARG;
        }
        if (kind != DELETE && !isLetter(y)) {
            return BAD_ARG;
        }
        if (sides < 0 || sides >= SIDES) {
            return BAD_ARG;
        }
        if (ruleCount >= MOST_RULES) {
            return FULL;
        }
        kinds[ruleCount] = kind;
        xs[ruleCount] = x;
        ys[ruleCount] = y;
        sideSets[ruleCount] = sides;
        ruleCount++;
        return ruleCount;
    }

    public int drop(int k) {
        if (!isRule(k)) {
            return NONE;
        }
        takeOut(kinds, k);
        takeOut(xs, k);
        takeOut(ys, k);
        takeOut(sideSets, k);
        ruleCount--;
        return ruleCount;
    }

    public int swap(int k) {
        if (!isPair(k)) {
            return NONE;
        }
        exchange(kinds, k);
        exchange(xs, k);
        exchange(ys, k);
        exchange(sideSets, k);
        return 0;
    }

    public int push(int letter) {
        if (!isLetter(letter)) {
            return BAD_ARG;
        }
        if (word >= LEAST_FULL_WORD) {
            return FULL;
        }
        word = append(word, letter);
        return lengthOf(word);
    }

    public int clear() {
        int length = lengthOf(word);
        word = EMPTY_WORD;
        return length;
    }

    public int apply() {
        word = cascade(word, 0, ruleCount);
        return lengthOf(word);
    }

    public int after(int k) {
        if (k < 0 || k > ruleCount) {
            return BAD_ARG;
        }
        return cascade(word, 0, k);
    }

    public int letter(int i) {
        int result = cascade(word, 0, ruleCount);
        int length = lengthOf(result);
        if (i < 0 || i >= length) {
            return NONE;
        }
        return letterOrEdge(result, length, i);
    }

    public int sources(int n) {
        if (!isAskedLength(n)) {
            return BAD_ARG;
        }
        int first = firstWord(n);
        int count = 0;
        for (int w = first; w < 2 * first; w++) {
            if (cascade(w, 0, ruleCount) == word) {
                count++;
            }
        }
        return count;
    }

    public int source(int n, int k) {
        if (!isAskedLength(n)) {
            return BAD_ARG;
        }
        int first = firstWord(n);
        int lesser = 0;
        for (int w = first; w < 2 * first; w++) {
            if (cascade(w, 0, ruleCount) == word) {
                if (lesser == k) {
                    return w;
                }
                lesser++;
            }
        }
        return NONE;
    }

    public int images(int n) {
        if (!isAskedLength(n)) {
            return BAD_ARG;
        }
        int first = firstWord(n);
        int count = 0;
        for (int w = first; w < 2 * first; w++) {
            int result = cascade(w, 0, ruleCount);
            if (!isFound(result, count)) {
                found[count] = result;
                count++;
            }
        }
        return count;
    }

    public int commute(int k, int n) {
        if (!isPair(k)) {
            return NONE;
        }
        if (!isAskedLength(n)) {
            return BAD_ARG;
        }
        int first = firstWord(n);
        for (int w = first; w < 2 * first; w++) {
            if (cascade(w, 0, ruleCount) != cascadeExchanged(w, k)) {
                return 0;
            }
        }
        return 1;
    }

    public int idle(int k, int n) {
        if (!isRule(k)) {
            return NONE;
        }
        if (!isAskedLength(n)) {
            return BAD_ARG;
        }
        int first = firstWord(n);
        for (int w = first; w < 2 * first; w++) {
            if (cascade(w, 0, ruleCount) != cascadeWithout(w, k)) {
                return 0;
            }
        }
        return 1;
    }

    public int still(int n) {
        if (!isAskedLength(n)) {
            return BAD_ARG;
        }
        int first = firstWord(n);
        int count = 0;
        for (int w = first; w < 2 * first; w++) {
            if (cascade(w, 0, ruleCount) == w) {
                count++;
            }
        }
        return count;
    }

    private static boolean isLetter(int value) {
        return value >= 0 && value < LETTERS;
    }

    private static boolean isAskedLength(int n) {
        return n >= 0 && n <= MOST_ASKED_LETTERS;
    }

    private boolean isRule(int k) {
        return k >= 0 && k < ruleCount;
    }

    /** Compares with ruleCount - 1, as k + 1 would wrap around at the greatest int. */
    private boolean isPair(int k) {
        return k >= 0 && k < ruleCount - 1;
    }

    private boolean isFound(int result, int count) {
        for (int i = 0; i < count; i++) {
            if (found[i] == result) {
                return true;
            }
        }
        return false;
    }

    private static void takeOut(int[] values, int k) {
        for (int i = k; i < MOST_RULES - 1; i++) {
            values[i] = values[i + 1];
        }
    }

    private static void exchange(int[] values, int k) {
        int kept = values[k];
        values[k] = values[k + 1];
        values[k + 1] = kept;
    }

    private static int firstWord(int n) {
        return 1 << (2 * n);
    }

    private static int lengthOf(int code) {
        int length = 0;
        while (length < MOST_LETTERS && (code >> (2 * length)) != EMPTY_WORD) {
            length++;
        }
        return length;
    }

    private static int letterOrEdge(int code, int length, int i) {
        if (i < 0 || i >= length) {
            return EDGE;
        }
        return (code >> (2 * (length - 1 - i))) & (LETTERS - 1);
    }

    /** A full word stays as it is: of more than 12 letters only the first 12 stay. */
    private static int append(int code, int letter) {
        return code >= LEAST_FULL_WORD ? code : LETTERS * code + letter;
    }

    /** What the rules from start up to end - 1 make of a word. */
    private int cascade(int code, int start, int end) {
        int made = code;
        for (int k = start; k < end; k++) {
            made = kinds[k] == INSERT ? insert(k, made) : changeOrDelete(k, made);
        }
        return made;
    }

    private int cascadeExchanged(int code, int k) {
        int made = cascade(code, 0, k);
        made = cascade(made, k + 1, k + 2);
        made = cascade(made, k, k + 1);
        return cascade(made, k + 2, ruleCount);
    }

    private int cascadeWithout(int code, int k) {
        int made = cascade(code, 0, k);
        return cascade(made, k + 1, ruleCount);
    }

    private int changeOrDelete(int k, int code) {
        int length = lengthOf(code);
        int made = EMPTY_WORD;
        for (int i = 0; i < length; i++) {
            int before = letterOrEdge(code, length, i - 1);
            int here = letterOrEdge(code, length, i);
            int behind = letterOrEdge(code, length, i + 1);
            if (here != xs[k] || !fits(k, before, behind)) {
                made = append(made, here);
            } else if (kinds[k] == CHANGE) {
                made = append(made, ys[k]);
            }
        }
        return made;
    }

    private int insert(int k, int code) {
        int length = lengthOf(code);
        int made = EMPTY_WORD;
        for (int i = 0; i <= length; i++) {
            int before = letterOrEdge(code, length, i - 1);
            int behind = letterOrEdge(code, length, i);
            if (fits(k, before, behind)) {
                made = append(made, ys[k]);
            }
            if (behind != EDGE) {
                made = append(made, behind);
            }
        }
        return made;
    }

    private boolean fits(int k, int before, int behind) {
        int left = sideSets[k] >> before;
        int right = sideSets[k] >> (SET_BITS + behind);
        return (left & right & 1) == 1;
    }
}
