public final class ParamCloneFinder {
    public static final int BAD_TOKEN = -1;
    public static final int FULL = -2;
    public static final int BAD_PLACE = -3;
    public static final int NONE = -4;

    private static final int LAST_TOKEN = 31;
    private static final int FIRST_NAME = 16;
    private static final int TEXT_ROOM = 48;
    private static final int PATTERN_ROOM = 12;

    private final int[] textTokens = new int[TEXT_ROOM];
    private final int[] patternTokens = new int[PATTERN_ROOM];
    private int textLength;
    private int patternLength;

    public ParamCloneFinder() {
        textLength = 0;
        patternLength = 0;
    }

    public int text(int code) {
        if (!isToken(code)) {
            return BAD_TOKEN;
        }
        if (textLength >= TEXT_ROOM) {
            return FULL;
        }
        textTokens[textLength] = code;
        textLength++;
        return textLength;
    }

    public int change(int index, int code) {
        if (!isTextIndex(index)) {
            return BAD_PLACE;
        }
        if (!isToken(code)) {
            return BAD_TOKEN;
        }
        int old = textTokens[index];
        textTokens[index] = code;
        return old;
    }

    public int pattern(int code) {
        if (!isToken(code)) {
            return BAD_TOKEN;
        }
        if (patternLength >= PATTERN_ROOM) {
            return FULL;
        }
        patternTokens[patternLength] = code;
        patternLength++;
        return patternLength;
    }

    public int patternFrom(int index, int n) {
        if (n < 1 || n > PATTERN_ROOM) {
            return BAD_PLACE;
        }
        // index + n could wrap around, textLength - n can't.
        if (index < 0 || index > textLength - n) {
            return BAD_PLACE;
        }
        for (int k = 0; k < n; k++) {
            patternTokens[k] = textTokens[index + k];
        }
        patternLength = n;
        return n;
    }

    public void clearPattern() {
        patternLength = 0;
    }

    public void clearText() {
        textLength = 0;
    }

    public int matches() {
        int count = 0;
        for (int i = 0; i < textLength; i++) {
            if (patternMatchesAt(i)) {
                count++;
            }
        }
        return count;
    }

    public int matchAt(int n) {
        int seen = 0;
        for (int i = 0; i < textLength; i++) {
            if (patternMatchesAt(i)) {
                if (seen == n) {
                    return i;
                }
                seen++;
            }
        }
        return NONE;
    }

    public int renamed(int n, int name) {
        // A keyword may stand in the pattern too, but it is never renamed.
        if (!isName(name)) {
            return NONE;
        }
        int start = matchAt(n);
        if (start == NONE) {
            return NONE;
        }
        for (int k = 0; k < patternLength; k++) {
            if (patternTokens[k] == name) {
                return textTokens[start + k];
            }
        }
        return NONE;
    }

    public int longestClone() {
        int longest = 0;
        for (int i = 0; i < textLength; i++) {
            for (int j = i + 1; j < textLength; j++) {
                int length = commonLength(i, j);
                if (length > longest) {
                    longest = length;
                }
            }
        }
        return longest;
    }

    public int cloneFirst() {
        int length = longestClone();
        for (int i = 0; i < textLength; i++) {
            if (nextAlike(i, length) != NONE) {
                return i;
            }
        }
        return NONE;
    }

    public int cloneSecond() {
        int length = longestClone();
        for (int i = 0; i < textLength; i++) {
            int second = nextAlike(i, length);
            if (second != NONE) {
                return second;
            }
        }
        return NONE;
    }

    public int kinds(int L) {
        if (L < 1 || L > textLength) {
            return 0;
        }
        int count = 0;
        for (int i = 0; i <= textLength - L; i++) {
            if (isNewKind(i, L)) {
                count++;
            }
        }
        return count;
    }

    public int reach(int i, int j) {
        if (!isTextIndex(i) || !isTextIndex(j)) {
            return BAD_PLACE;
        }
        return commonLength(i, j);
    }

    private static boolean isToken(int code) {
        return code >= 0 && code <= LAST_TOKEN;
    }

    private static boolean isName(int code) {
        return code >= FIRST_NAME && code <= LAST_TOKEN;
    }

    private boolean isTextIndex(int index) {
        return index >= 0 && index < textLength;
    }

    private boolean patternMatchesAt(int start) {
        // Every window would be alike with an empty pattern; the document counts none.
        if (patternLength == 0 || start > textLength - patternLength) {
            return false;
        }
        int length = alikeLength(patternTokens, 0, textTokens, start, patternLength);
        return length == patternLength;
    }

    private int commonLength(int i, int j) {
        int later = i > j ? i : j;
        return alikeLength(textTokens, i, textTokens, j, textLength - later);
    }

    private int nextAlike(int i, int length) {
        // No window has length 0, yet every two places share that many tokens.
        if (length < 1) {
            return NONE;
        }
        for (int j = i + 1; j < textLength; j++) {
            if (commonLength(i, j) >= length) {
                return j;
            }
        }
        return NONE;
    }

    private boolean isNewKind(int i, int length) {
        for (int j = 0; j < i; j++) {
            if (commonLength(j, i) >= length) {
                return false;
            }
        }
        return true;
    }

    // Lists that are alike have alike beginnings, so the first place that doesn't fit
    // settles the greatest length.
    private static int alikeLength(int[] a, int aStart, int[] b, int bStart, int most) {
        for (int k = 0; k < most; k++) {
            if (!placeFits(a, aStart, b, bStart, k)) {
                return k;
            }
        }
        return most;
    }

    // Names are compared by where they stood before, in both lists: that alone makes the
    // renaming one-to-one, and no table of it has to be kept.
    private static boolean placeFits(int[] a, int aStart, int[] b, int bStart, int k) {
        int x = a[aStart + k];
        int y = b[bStart + k];
        if (x < FIRST_NAME || y < FIRST_NAME) {
            return x == y;
        }
        for (int m = 0; m < k; m++) {
            boolean sameInA = a[aStart + m] == x;
            boolean sameInB = b[bStart + m] == y;
            if (sameInA != sameInB) {
                return false;
            }
        }
        return true;
    }
}
