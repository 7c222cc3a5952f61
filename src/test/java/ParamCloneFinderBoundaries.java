import java.util.Arrays;

// A test of its own for each sentence of the document that names a boundary case: the last value
// inside and the first outside, the least and the greatest int, empty and full, refused calls.
public final class ParamCloneFinderBoundaries {
    private static final int BAD_TOKEN = -1;
    private static final int FULL = -2;
    private static final int BAD_PLACE = -3;
    private static final int NONE = -4;
    private static final int MIN = Integer.MIN_VALUE;
    private static final int MAX = Integer.MAX_VALUE;
    private static final int MOST_CALLS = 512;

    // Beside the nearest and the farthest codes, some whose low bits are those of a token.
    private static final int[] WRONG_CODES =
            {-1, 32, MIN, MAX, 33, 48, 63, 64, -16, -32, 256, 1 << 16, MIN + 5, MIN + 16, MAX - 15};

    private static final int[] EMPTY = {};
    private static final int[] SOME_TEXT = {2, 16, 17, 2, 31};
    private static final int[] SOME_PATTERN = {2, 20};
    private static final int[] FULL_TEXT = fullText();
    private static final int[] FULL_PATTERN = {15, 16, 31, 0, 16, 17, 1, 31, 14, 17, 30, 16};
    private static final int[][] TEXTS = {EMPTY, {16}, SOME_TEXT, Arrays.copyOf(fullText(), 47), FULL_TEXT};
    private static final int[][] PATTERNS = {EMPTY, SOME_PATTERN, Arrays.copyOf(FULL_PATTERN, 11), FULL_PATTERN};

    private static volatile String sentence;
    private static int wrong = 0;

    // Every code stands in it, and the last 16 places are as the first 16.
    private static int[] fullText() {
        int[] codes = new int[48];
        for (int k = 0; k < 48; k++) {
            codes[k] = (k * 5 + 3) % 32;
        }
        return codes;
    }

    private static int[] repeated(int code, int times) {
        int[] codes = new int[times];
        Arrays.fill(codes, code);
        return codes;
    }

    // Keywords 0 to 15 and one name: the longest text in which no two tokens are alike.
    private static int[] allApart() {
        int[] codes = new int[17];
        for (int k = 0; k < 17; k++) {
            codes[k] = k;
        }
        return codes;
    }

    private static boolean contains(int[] codes, int code) {
        for (int c : codes) {
            if (c == code) {
                return true;
            }
        }
        return false;
    }

    private static void fault(String words) {
        wrong++;
        System.out.println(sentence + "\n    " + words);
    }

    private static void due(String what, int got, int want) {
        if (got != want) {
            fault(what + " answered " + got + ", due is " + want);
        }
    }

    // The class under test, with its calls counted: the document frees the answers after 512.
    private static final class Finder {
        private final ParamCloneFinder x = new ParamCloneFinder();
        private int calls = 0;

        private ParamCloneFinder next() {
            calls++;
            if (calls > MOST_CALLS) {
                throw new IllegalStateException("the test makes more than 512 calls");
            }
            return x;
        }

        int text(int code) {
            return next().text(code);
        }

        int change(int index, int code) {
            return next().change(index, code);
        }

        int pattern(int code) {
            return next().pattern(code);
        }

        int patternFrom(int index, int n) {
            return next().patternFrom(index, n);
        }

        void clearPattern() {
            next().clearPattern();
        }

        void clearText() {
            next().clearText();
        }

        int matches() {
            return next().matches();
        }

        int matchAt(int n) {
            return next().matchAt(n);
        }

        int renamed(int n, int name) {
            return next().renamed(n, name);
        }

        int longestClone() {
            return next().longestClone();
        }

        int cloneFirst() {
            return next().cloneFirst();
        }

        int cloneSecond() {
            return next().cloneSecond();
        }

        int kinds(int length) {
            return next().kinds(length);
        }

        int reach(int i, int j) {
            return next().reach(i, j);
        }
    }

    private interface Call {
        int on(Finder f);
    }

    private static void addText(Finder f, int... codes) {
        for (int code : codes) {
            f.text(code);
        }
    }

    private static void addPattern(Finder f, int... codes) {
        for (int code : codes) {
            f.pattern(code);
        }
    }

    private static Finder with(int[] text, int[] pattern) {
        Finder f = new Finder();
        addText(f, text);
        addPattern(f, pattern);
        return f;
    }

    private static Finder withText(int... codes) {
        return with(codes, EMPTY);
    }

    // change answers the old code, and writing it back leaves the text as it was.
    private static void dueText(String what, Finder f, int[] text) {
        for (int k = 0; k < text.length; k++) {
            int old = f.change(k, 0);
            due(what + ", then the text's token " + k, old, text[k]);
            f.change(k, old);
        }
        due(what + ", then the place behind the text", f.change(text.length, 0), BAD_PLACE);
    }

    // The pattern is seen through a text that is its equal: one match, each name kept. It spoils
    // the text and the pattern, so it comes last.
    private static void duePattern(String what, Finder f, int[] pattern) {
        f.clearText();
        addText(f, pattern);
        due(what + ", then matches in a text like the pattern", f.matches(), pattern.length == 0 ? 0 : 1);
        for (int name = 16; name <= 31; name++) {
            int want = contains(pattern, name) ? name : NONE;
            due(what + ", then the pattern's name " + name, f.renamed(0, name), want);
        }
        int want = pattern.length == 12 ? FULL : pattern.length + 1;
        due(what + ", then one pattern token more", f.pattern(0), want);
    }

    private static int[] answers(Finder f) {
        return new int[] {
            f.matches(), f.matchAt(0), f.matchAt(1), f.renamed(0, 16), f.renamed(0, 20), f.renamed(1, 20),
            f.longestClone(), f.cloneFirst(), f.cloneSecond(), f.kinds(1), f.kinds(2), f.kinds(5), f.kinds(48),
            f.reach(0, 0), f.reach(0, 3), f.reach(47, 0), f.reach(32, 0)
        };
    }

    private static void dueState(String what, Finder f, int[] text, int[] pattern) {
        int[] want = answers(with(text, pattern));
        int[] got = answers(f);
        if (!Arrays.equals(got, want)) {
            fault(what + ", then the other calls answered " + Arrays.toString(got) + ", due is " + Arrays.toString(want));
        }
        dueText(what, f, text);
        duePattern(what, f, pattern);
    }

    private static void dueKept(String what, Call call, int want, int[] text, int[] pattern) {
        Finder f = with(text, pattern);
        String whole = what + " with " + text.length + " in the text and " + pattern.length + " in the pattern";
        due(whole, call.on(f), want);
        dueState(whole, f, text, pattern);
    }

    private static void refusedText(int code, int want, int[] text, int[] pattern) {
        dueKept("text(" + code + ")", f -> f.text(code), want, text, pattern);
    }

    private static void refusedChange(int index, int code, int want, int[] text, int[] pattern) {
        dueKept("change(" + index + ", " + code + ")", f -> f.change(index, code), want, text, pattern);
    }

    private static void refusedPattern(int code, int want, int[] text, int[] pattern) {
        dueKept("pattern(" + code + ")", f -> f.pattern(code), want, text, pattern);
    }

    private static void refusedPatternFrom(int index, int n, int[] text, int[] pattern) {
        dueKept("patternFrom(" + index + ", " + n + ")", f -> f.patternFrom(index, n), BAD_PLACE, text, pattern);
    }

    // Terms

    private static void keywordsAndNames() {
        for (int a = 0; a <= 31; a++) {
            for (int b = 0; b <= 31; b++) {
                int want = a == b || (a >= 16 && b >= 16) ? 1 : 0;
                Finder f = with(new int[] {a}, new int[] {b});
                due("matches of the pattern " + b + " in the text " + a, f.matches(), want);
                due("reach(0, 1) in the text " + a + " " + b, withText(a, b).reach(0, 1), want);
            }
        }
    }

    private static void sameNameInBoth() {
        int[][] pairs = {{16, 17, 18, 18}, {16, 16, 17, 18}, {16, 31, 31, 31}, {31, 31, 31, 16}};
        for (int[] p : pairs) {
            Finder f = with(new int[] {p[0], p[1]}, new int[] {p[2], p[3]});
            due("matches of unlike names " + Arrays.toString(p), f.matches(), 0);
        }
        Finder swapped = with(new int[] {16, 17, 16}, new int[] {17, 16, 17});
        due("matches of two names that change places", swapped.matches(), 1);
        due("renamed(0, 17) of two names that change places", swapped.renamed(0, 17), 16);
    }

    private static void sameNameAtAnyTwoPlaces() {
        for (int q = 1; q < 12; q++) {
            for (int p = 0; p < q; p++) {
                int[] pattern = repeated(5, 12);
                pattern[p] = 16;
                pattern[q] = 16;
                int[] text = pattern.clone();
                String where = " at " + p + " and " + q;
                text[p] = 31;
                due("matches with two names" + where, with(text, pattern).matches(), 0);
                due("matches with one name in the text" + where, with(pattern, text).matches(), 0);
                text[q] = 31;
                due("matches with the same name" + where, with(text, pattern).matches(), 1);
            }
        }
    }

    private static void sameNameAtAnyTwoPlacesOfHalves() {
        for (int q = 1; q < 24; q++) {
            for (int p = 0; p < q; p++) {
                int[] text = repeated(5, 48);
                text[p] = 16;
                text[q] = 16;
                text[24 + p] = 17;
                text[24 + q] = 17;
                String where = " at " + p + " and " + q;
                due("reach with the same name" + where, withText(text).reach(0, 24), 24);
                text[24 + q] = 18;
                due("reach to two names" + where, withText(text).reach(0, 24), q);
                due("reach from two names" + where, withText(text).reach(24, 0), q);
            }
        }
    }

    private static void queriesChangeNothing() {
        int[] values = {MIN, -1, 0, 1, 16, 47, 48, MAX};
        for (int[] text : TEXTS) {
            for (int[] pattern : PATTERNS) {
                Finder f = with(text, pattern);
                for (int v : values) {
                    f.matchAt(v);
                    f.kinds(v);
                    for (int w : values) {
                        f.renamed(v, w);
                        f.reach(v, w);
                    }
                }
                answers(f);
                dueState("all calls that ask, text of " + text.length + ", pattern of " + pattern.length, f, text, pattern);
            }
        }
    }

    private static void lastOf512Calls() {
        Call[] calls = {
            f -> f.text(5), f -> f.change(4, 5), f -> f.pattern(17), f -> f.patternFrom(3, 2), f -> f.matches(),
            f -> f.matchAt(1), f -> f.renamed(1, 20), f -> f.longestClone(), f -> f.cloneFirst(),
            f -> f.cloneSecond(), f -> f.kinds(1), f -> f.reach(3, 0)
        };
        int[] want = {6, 31, 3, 2, 2, 3, 31, 2, 0, 3, 2, 2};
        for (int c = 0; c < calls.length; c++) {
            Finder f = with(SOME_TEXT, SOME_PATTERN);
            for (int k = 7; k < MOST_CALLS - 1; k++) {
                due("call of number " + k + ", a refused text", f.text(32), BAD_TOKEN);
            }
            due("the 512th call, of kind " + c, calls[c].on(f), want[c]);
        }
    }

    // clearText and clearPattern answer nothing, so they are the last calls but one.
    private static void lastClearsOf512Calls() {
        Finder text = with(FULL_TEXT, FULL_PATTERN);
        Finder pattern = with(FULL_TEXT, FULL_PATTERN);
        for (int k = 60; k < MOST_CALLS - 2; k++) {
            due("call of number " + k + ", a text when full", text.text(0), FULL);
            due("call of number " + k + ", a pattern when full", pattern.pattern(0), FULL);
        }
        text.clearText();
        due("the 512th call, behind clearText", text.text(0), 1);
        pattern.clearPattern();
        due("the 512th call, behind clearPattern", pattern.pattern(0), 1);
    }

    private static void manyTextsOneAfterAnother() {
        Finder f = new Finder();
        for (int round = 0; round < 10; round++) {
            for (int k = 1; k <= 48; k++) {
                due("text in round " + round, f.text(16), k);
            }
            due("text when full in round " + round, f.text(16), FULL);
            f.clearText();
        }
    }

    // Promise 1

    private static void newTextIsEmpty() {
        dueState("a new object", new Finder(), EMPTY, EMPTY);
        due("change(0, 0)", new Finder().change(0, 0), BAD_PLACE);
        due("patternFrom(0, 1)", new Finder().patternFrom(0, 1), BAD_PLACE);
        due("reach(0, 0)", new Finder().reach(0, 0), BAD_PLACE);
        due("kinds(1)", new Finder().kinds(1), 0);
        due("longestClone", new Finder().longestClone(), 0);
        due("the first text", new Finder().text(0), 1);
    }

    private static void newPatternIsEmpty() {
        due("matches", new Finder().matches(), 0);
        due("matches in a text of one name", withText(16).matches(), 0);
        due("matches in a full text", withText(FULL_TEXT).matches(), 0);
        due("matchAt(0) in a text of one name", withText(16).matchAt(0), NONE);
        due("the first pattern", new Finder().pattern(0), 1);
    }

    // dueState makes a further object of the same tokens, which would hide what two objects share.
    private static void newBesideAFullOne() {
        Finder full = with(FULL_TEXT, FULL_PATTERN);
        Finder fresh = new Finder();
        due("matches of a new object beside a full one", fresh.matches(), 0);
        dueText("a new object beside a full one", fresh, EMPTY);
        due("the first text beside a full one", fresh.text(0), 1);
        due("the first pattern beside a full one", fresh.pattern(0), 1);
        dueText("a full object beside a new one", full, FULL_TEXT);
        duePattern("a full object beside a new one", full, FULL_PATTERN);
    }

    // Promise 2

    private static void textTakes0To31() {
        for (int code = 0; code <= 31; code++) {
            Finder f = new Finder();
            due("text(" + code + ")", f.text(code), 1);
            dueState("text(" + code + ")", f, new int[] {code}, EMPTY);
        }
    }

    private static void textRefusesOtherCodes() {
        for (int code : WRONG_CODES) {
            for (int[] text : TEXTS) {
                refusedText(code, BAD_TOKEN, text, SOME_PATTERN);
            }
            refusedText(code, BAD_TOKEN, SOME_TEXT, EMPTY);
            refusedText(code, BAD_TOKEN, SOME_TEXT, FULL_PATTERN);
        }
    }

    private static void textTakes48() {
        Finder f = new Finder();
        addPattern(f, FULL_PATTERN);
        for (int k = 0; k < 48; k++) {
            due("text of number " + k, f.text(FULL_TEXT[k]), k + 1);
        }
        dueState("48 tokens", f, FULL_TEXT, FULL_PATTERN);
    }

    private static void textRefusesThe49th() {
        for (int code = 0; code <= 31; code++) {
            refusedText(code, FULL, FULL_TEXT, SOME_PATTERN);
        }
        refusedText(0, FULL, FULL_TEXT, EMPTY);
        refusedText(31, FULL, FULL_TEXT, FULL_PATTERN);
    }

    private static void textAnswersTheLength() {
        Finder f = new Finder();
        due("text on an empty text", f.text(31), 1);
        f.text(32);
        due("text behind a refused one", f.text(31), 2);
        f.clearText();
        due("text behind clearText", f.text(31), 1);
        due("the 48th text", withText(repeated(7, 47)).text(7), 48);
    }

    // Promise 3

    private static void changeTakesFirstAndLast() {
        for (int[] text : TEXTS) {
            for (int index = 0; index < text.length; index++) {
                Finder f = with(text, SOME_PATTERN);
                int[] want = text.clone();
                want[index] = 31 - text[index];
                due("change(" + index + ") of " + text.length, f.change(index, want[index]), text[index]);
                dueState("change(" + index + ") of " + text.length, f, want, SOME_PATTERN);
            }
        }
    }

    private static void changeRefusesOtherPlaces() {
        for (int[] text : TEXTS) {
            int n = text.length;
            for (int index : new int[] {-1, n, n + 1, -n - 1, 48, 49, 1 << 16, MIN, MIN + n, MAX}) {
                refusedChange(index, 0, BAD_PLACE, text, SOME_PATTERN);
                refusedChange(index, 31, BAD_PLACE, text, FULL_PATTERN);
            }
        }
    }

    private static void changeFollowsTheLength() {
        Finder f = withText(1, 2);
        due("change(2) before the text grows", f.change(2, 5), BAD_PLACE);
        f.text(3);
        due("change(2) when it has grown", f.change(2, 5), 3);
        f.clearText();
        due("change(0) behind clearText", f.change(0, 5), BAD_PLACE);
        f.text(4);
        due("change(0) of the new text", f.change(0, 5), 4);
        due("change(1) of the new text", f.change(1, 5), BAD_PLACE);
    }

    private static void changeTakes0To31() {
        for (int code = 0; code <= 31; code++) {
            Finder f = withText(7, 8);
            due("change(1, " + code + ")", f.change(1, code), 8);
            dueState("change(1, " + code + ")", f, new int[] {7, code}, EMPTY);
        }
    }

    private static void changeRefusesOtherCodes() {
        for (int code : WRONG_CODES) {
            for (int[] text : TEXTS) {
                if (text.length > 0) {
                    refusedChange(0, code, BAD_TOKEN, text, SOME_PATTERN);
                    refusedChange(text.length - 1, code, BAD_TOKEN, text, FULL_PATTERN);
                }
            }
        }
    }

    private static void changeAnswersTheOldCode() {
        Finder f = withText(0);
        for (int code = 0; code < 31; code++) {
            due("change from " + code, f.change(0, code + 1), code);
        }
        due("change from 31 to 31", f.change(0, 31), 31);
        due("change from 31 to 0", f.change(0, 0), 31);
        f.change(0, 32);
        due("change behind a refused one", f.change(0, 1), 0);
    }

    // Promise 4

    private static void patternTakes0To31() {
        for (int code = 0; code <= 31; code++) {
            Finder f = withText(SOME_TEXT);
            due("pattern(" + code + ")", f.pattern(code), 1);
            dueState("pattern(" + code + ")", f, SOME_TEXT, new int[] {code});
        }
    }

    private static void patternRefusesOtherCodes() {
        for (int code : WRONG_CODES) {
            for (int[] pattern : PATTERNS) {
                refusedPattern(code, BAD_TOKEN, SOME_TEXT, pattern);
            }
            refusedPattern(code, BAD_TOKEN, EMPTY, SOME_PATTERN);
            refusedPattern(code, BAD_TOKEN, FULL_TEXT, SOME_PATTERN);
        }
    }

    private static void patternTakes12() {
        Finder f = withText(FULL_TEXT);
        for (int k = 0; k < 12; k++) {
            due("pattern of number " + k, f.pattern(FULL_PATTERN[k]), k + 1);
        }
        dueState("12 tokens", f, FULL_TEXT, FULL_PATTERN);
    }

    private static void patternRefusesThe13th() {
        for (int code = 0; code <= 31; code++) {
            refusedPattern(code, FULL, SOME_TEXT, FULL_PATTERN);
        }
        refusedPattern(0, FULL, EMPTY, FULL_PATTERN);
        refusedPattern(31, FULL, FULL_TEXT, FULL_PATTERN);
        Finder f = withText(FULL_TEXT);
        f.patternFrom(0, 11);
        due("the 12th pattern behind patternFrom", f.pattern(9), 12);
        due("the 13th pattern behind patternFrom", f.pattern(9), FULL);
    }

    private static void patternAnswersTheLength() {
        Finder f = withText(SOME_TEXT);
        due("pattern on an empty one", f.pattern(31), 1);
        f.pattern(-1);
        due("pattern behind a refused one", f.pattern(31), 2);
        f.clearPattern();
        due("pattern behind clearPattern", f.pattern(31), 1);
        f.patternFrom(0, 5);
        due("pattern behind patternFrom", f.pattern(31), 6);
        f.patternFrom(0, 13);
        due("pattern behind a refused patternFrom", f.pattern(31), 7);
    }

    // Promise 5

    private static void duePatternFrom(int index, int n, int[] text, int[] pattern) {
        Finder f = with(text, pattern);
        String what = "patternFrom(" + index + ", " + n + ") of " + text.length;
        due(what, f.patternFrom(index, n), n);
        dueState(what, f, text, Arrays.copyOfRange(text, index, index + n));
    }

    private static void patternFromTakes1To12() {
        for (int n = 1; n <= 12; n++) {
            for (int[] pattern : PATTERNS) {
                duePatternFrom(0, n, FULL_TEXT, pattern);
                duePatternFrom(20, n, FULL_TEXT, pattern);
            }
        }
    }

    private static void patternFromRefusesOtherLengths() {
        for (int n : new int[] {0, 13, -1, -12, 14, 48, 49, MIN, MIN + 1, MIN + 12, MAX, MAX - 1, 1 << 16}) {
            for (int[] pattern : PATTERNS) {
                refusedPatternFrom(0, n, FULL_TEXT, pattern);
                refusedPatternFrom(20, n, FULL_TEXT, pattern);
            }
            refusedPatternFrom(0, n, EMPTY, SOME_PATTERN);
            refusedPatternFrom(5, n, SOME_TEXT, SOME_PATTERN);
        }
    }

    private static void patternFromTakesFirstAndLastWindow() {
        for (int[] text : TEXTS) {
            for (int n = 1; n <= 12 && n <= text.length; n++) {
                duePatternFrom(0, n, text, SOME_PATTERN);
                duePatternFrom(text.length - n, n, text, FULL_PATTERN);
            }
        }
    }

    private static void patternFromRefusesWindowsOutside() {
        for (int[] text : TEXTS) {
            for (int n = 1; n <= 12; n++) {
                refusedPatternFrom(-1, n, text, SOME_PATTERN);
                refusedPatternFrom(-n, n, text, SOME_PATTERN);
                refusedPatternFrom(text.length, n, text, FULL_PATTERN);
                if (n <= text.length) {
                    refusedPatternFrom(text.length - n + 1, n, text, SOME_PATTERN);
                } else {
                    refusedPatternFrom(0, n, text, SOME_PATTERN);
                }
            }
        }
    }

    private static void patternFromWrapsNoSum() {
        int[][] calls = {
            {MAX, 1}, {MAX, 12}, {MAX - 10, 12}, {MAX - 11, 12}, {MAX - 12, 12}, {MIN, 1}, {MIN, 12},
            {MIN + 1, 1}, {1, MAX}, {2, MAX}, {-1, MAX}, {MAX, MAX}, {MIN, MIN}, {MAX, MIN}, {MIN, MAX}, {0, MIN}
        };
        for (int[] call : calls) {
            for (int[] text : TEXTS) {
                refusedPatternFrom(call[0], call[1], text, SOME_PATTERN);
            }
            refusedPatternFrom(call[0], call[1], FULL_TEXT, EMPTY);
            refusedPatternFrom(call[0], call[1], FULL_TEXT, FULL_PATTERN);
        }
    }

    private static void patternFromFollowsTheLength() {
        Finder f = withText(1, 2);
        due("patternFrom(0, 3) before the text grows", f.patternFrom(0, 3), BAD_PLACE);
        f.text(3);
        due("patternFrom(0, 3) when it has grown", f.patternFrom(0, 3), 3);
        f.clearText();
        due("patternFrom(0, 1) behind clearText", f.patternFrom(0, 1), BAD_PLACE);
        dueState("the text's windows that are gone", f, EMPTY, new int[] {1, 2, 3});
    }

    // Promises 6 and 7

    private static void clearPatternInEveryState() {
        for (int[] text : TEXTS) {
            for (int[] pattern : PATTERNS) {
                Finder f = with(text, pattern);
                f.clearPattern();
                dueState("clearPattern", f, text, EMPTY);
            }
        }
        Finder f = with(SOME_TEXT, FULL_PATTERN);
        f.clearPattern();
        f.clearPattern();
        addPattern(f, SOME_PATTERN);
        dueState("clearPattern twice, then a pattern", f, SOME_TEXT, SOME_PATTERN);
        Finder g = with(SOME_TEXT, FULL_PATTERN);
        g.clearPattern();
        for (int k = 1; k <= 12; k++) {
            due("pattern behind clearPattern", g.pattern(0), k);
        }
        due("the 13th pattern behind clearPattern", g.pattern(0), FULL);
    }

    private static void clearTextInEveryState() {
        for (int[] text : TEXTS) {
            for (int[] pattern : PATTERNS) {
                Finder f = with(text, pattern);
                f.clearText();
                dueState("clearText", f, EMPTY, pattern);
            }
        }
        Finder f = with(FULL_TEXT, FULL_PATTERN);
        f.clearText();
        f.clearText();
        addText(f, SOME_TEXT);
        dueState("clearText twice, then a text", f, SOME_TEXT, FULL_PATTERN);
    }

    // Promise 8

    private static void matchesOfAnEmptyPattern() {
        for (int[] text : TEXTS) {
            due("matches in a text of " + text.length, withText(text).matches(), 0);
            Finder f = with(text, FULL_PATTERN);
            f.clearPattern();
            due("matches behind clearPattern", f.matches(), 0);
        }
    }

    private static void matchesInAnEmptyText() {
        for (int length = 0; length <= 12; length++) {
            int[] pattern = repeated(16, length);
            due("matches of " + length + " in an empty text", with(EMPTY, pattern).matches(), 0);
            Finder f = with(repeated(16, 48), pattern);
            f.clearText();
            due("matches of " + length + " behind clearText", f.matches(), 0);
        }
    }

    private static void matchesOfTheTextsLength() {
        for (int length = 1; length <= 12; length++) {
            int[] pattern = repeated(16, length);
            due("matches, text one longer than " + length, with(repeated(17, length + 1), pattern).matches(), 2);
            due("matches, text as long as " + length, with(repeated(17, length), pattern).matches(), 1);
            due("matches, text one shorter than " + length, with(repeated(17, length - 1), pattern).matches(), 0);
        }
    }

    // What an earlier, longer text left behind the end is no window.
    private static void matchesNotBehindTheEnd() {
        Finder f = with(repeated(17, 48), new int[] {16, 16, 16});
        f.clearText();
        addText(f, 18, 17, 17);
        due("matches over the text's end", f.matches(), 0);
        due("matchAt(0) over the text's end", f.matchAt(0), NONE);
        f.text(17);
        due("matches up to the text's end", f.matches(), 1);
        due("matchAt(0) up to the text's end", f.matchAt(0), 1);
    }

    private static void matchesInAFullText() {
        for (int length = 1; length <= 12; length++) {
            int[] pattern = repeated(16, length);
            due("matches of " + length + " in a full text", with(repeated(31, 48), pattern).matches(), 49 - length);
        }
        due("matches at both ends of a full text", with(FULL_TEXT, new int[] {3, 8, 13}).matches(), 2);
        due("matches at the end alone", with(FULL_TEXT, new int[] {4, 9, 14, 16, 17, 18}).matches(), 1);
    }

    // Promise 9

    private static void matchAtCountsFrom0() {
        for (int length = 1; length <= 12; length++) {
            Finder f = with(repeated(31, 48), repeated(16, length));
            for (int n = 0; n <= 48 - length; n++) {
                due("matchAt(" + n + ") of " + length, f.matchAt(n), n);
            }
            due("matchAt behind the last of " + length, f.matchAt(49 - length), NONE);
        }
        Finder ends = with(FULL_TEXT, new int[] {3, 8, 13});
        due("matchAt(0), the leftmost", ends.matchAt(0), 0);
        due("matchAt(1), the rightmost", ends.matchAt(1), 32);
        int[] text = new int[48];
        text[0] = 16;
        text[47] = 31;
        Finder outermost = with(text, new int[] {20});
        due("matchAt(0) at the first place", outermost.matchAt(0), 0);
        due("matchAt(1) at the last place", outermost.matchAt(1), 47);
        due("matchAt(2) of two", outermost.matchAt(2), NONE);
    }

    private static void matchAtHasNoSuchNumber() {
        for (int n : new int[] {-1, 2, 3, -2, NONE, 48, 1 << 16, MIN, MIN + 1, MAX}) {
            due("matchAt(" + n + ") of two", with(SOME_TEXT, SOME_PATTERN).matchAt(n), NONE);
        }
        for (int n : new int[] {-1, 0, 1, MIN, MAX}) {
            due("matchAt(" + n + ") of none", with(SOME_TEXT, new int[] {3}).matchAt(n), NONE);
        }
    }

    private static void matchAtOfEmptyPatternOrText() {
        for (int n : new int[] {-1, 0, 1, 47, 48, MIN, MAX}) {
            for (int[] text : TEXTS) {
                due("matchAt(" + n + ") of an empty pattern", withText(text).matchAt(n), NONE);
            }
            for (int[] pattern : PATTERNS) {
                due("matchAt(" + n + ") in an empty text", with(EMPTY, pattern).matchAt(n), NONE);
            }
        }
    }

    // Promise 10

    private static void renamedHasNoSuchWindow() {
        Finder two = with(SOME_TEXT, SOME_PATTERN);
        due("renamed(0, 20)", two.renamed(0, 20), 16);
        due("renamed(1, 20), the last window", two.renamed(1, 20), 31);
        for (int n : new int[] {-1, 2, -2, NONE, 48, 1 << 16, MIN, MIN + 1, MAX}) {
            due("renamed(" + n + ", 20) of two", two.renamed(n, 20), NONE);
        }
        for (int n : new int[] {-1, 0, 1, MIN, MAX}) {
            due("renamed(" + n + ", 16) in an empty text", with(EMPTY, FULL_PATTERN).renamed(n, 16), NONE);
            due("renamed(" + n + ", 16) of none", with(SOME_TEXT, FULL_PATTERN).renamed(n, 16), NONE);
            due("renamed(" + n + ", 16) of an empty pattern", withText(16, 16).renamed(n, 16), NONE);
        }
    }

    private static void renamedOfAbsentNames() {
        int[] text = {15, 31, 30, 0};
        int[] pattern = {15, 16, 17, 0};
        Finder f = with(text, pattern);
        for (int name = 16; name <= 31; name++) {
            int want = name == 16 ? 31 : name == 17 ? 30 : NONE;
            due("renamed(0, " + name + ")", f.renamed(0, name), want);
        }
        f.clearPattern();
        f.pattern(15);
        due("renamed of a name that clearPattern took away", f.renamed(0, 16), NONE);
        Finder shorter = with(text, pattern);
        shorter.patternFrom(0, 2);
        due("renamed of a name that patternFrom took away", shorter.renamed(0, 17), NONE);
        due("renamed of a name that patternFrom brought", shorter.renamed(0, 31), 31);
    }

    private static void renamedTakesNames16To31() {
        for (int name = 16; name <= 31; name++) {
            for (int other = 16; other <= 31; other++) {
                Finder f = with(new int[] {other}, new int[] {name});
                due("renamed(0, " + name + ") in the text " + other, f.renamed(0, name), other);
            }
        }
        int[] text = Arrays.copyOf(FULL_TEXT, 48);
        text[36] = 15;
        for (int k = 37; k < 48; k++) {
            text[k] = 68 - k;
        }
        int[] pattern = {15, 16, 17, 18, 19, 20, 21, 22, 23, 24, 25, 26};
        Finder f = with(text, pattern);
        due("matchAt(0) at the full text's end", f.matchAt(0), 36);
        due("renamed of the full pattern's second", f.renamed(0, 16), 31);
        due("renamed of the full pattern's last", f.renamed(0, 26), 21);
        due("renamed of a name behind the pattern's last", f.renamed(0, 27), NONE);
    }

    private static void renamedOfNoNames() {
        int[] text = {0, 1, 2, 15, 16, 31};
        Finder f = with(text, text);
        due("renamed(0, 16)", f.renamed(0, 16), 16);
        due("renamed(0, 31)", f.renamed(0, 31), 31);
        for (int keyword = 0; keyword <= 15; keyword++) {
            due("renamed(0, " + keyword + ")", f.renamed(0, keyword), NONE);
        }
        for (int code : WRONG_CODES) {
            due("renamed(0, " + code + ")", f.renamed(0, code), NONE);
            due("renamed(1, " + code + ")", f.renamed(1, code), NONE);
        }
    }

    // Promises 11 to 13

    private static void dueClone(String what, Finder f, int length, int first, int second) {
        due(what + ", longestClone", f.longestClone(), length);
        due(what + ", cloneFirst", f.cloneFirst(), first);
        due(what + ", cloneSecond", f.cloneSecond(), second);
    }

    private static int[] and(int[] codes, int last) {
        int[] more = Arrays.copyOf(codes, codes.length + 1);
        more[codes.length] = last;
        return more;
    }

    private static void noClone() {
        due("an empty text", withText().longestClone(), 0);
        for (int code = 0; code <= 31; code++) {
            due("a text of one", withText(code).longestClone(), 0);
        }
        due("keyword and name", withText(15, 16).longestClone(), 0);
        due("two keywords", withText(0, 15).longestClone(), 0);
        due("all 17 kinds of tokens", withText(allApart()).longestClone(), 0);
        for (int code = 0; code <= 31; code++) {
            due("all 17 kinds and one more", withText(and(allApart(), code)).longestClone(), 1);
        }
        Finder f = withText(repeated(0, 48));
        f.clearText();
        due("a cleared text", f.longestClone(), 0);
        f.text(0);
        due("one token behind a cleared text", f.longestClone(), 0);
    }

    private static void cloneFirstOfNone() {
        due("an empty text", withText().cloneFirst(), NONE);
        due("a text of one", withText(16).cloneFirst(), NONE);
        due("keyword and name", withText(15, 16).cloneFirst(), NONE);
        due("all 17 kinds of tokens", withText(allApart()).cloneFirst(), NONE);
        Finder f = withText(repeated(0, 48));
        f.clearText();
        due("a cleared text", f.cloneFirst(), NONE);
    }

    private static void cloneSecondOfNone() {
        due("an empty text", withText().cloneSecond(), NONE);
        due("a text of one", withText(16).cloneSecond(), NONE);
        due("keyword and name", withText(15, 16).cloneSecond(), NONE);
        due("all 17 kinds of tokens", withText(allApart()).cloneSecond(), NONE);
        Finder f = withText(repeated(0, 48));
        f.clearText();
        due("a cleared text", f.cloneSecond(), NONE);
    }

    // A window is alike with itself, so only "different indexes" keeps the answer below the length.
    private static void clonesOverlap() {
        for (int length = 2; length <= 48; length++) {
            dueClone(length + " keywords", withText(repeated(15, length)), length - 1, 0, 1);
            dueClone(length + " times a name", withText(repeated(16, length)), length - 1, 0, 1);
        }
        int[] names = new int[48];
        for (int k = 0; k < 48; k++) {
            names[k] = 16 + k % 16;
        }
        dueClone("48 names in turn", withText(names), 47, 0, 1);
        dueClone("two by two", withText(16, 1, 16, 1, 16), 3, 0, 2);
    }

    private static void clonesAtTheEnds() {
        dueClone("first and last of three", withText(7, 16, 7), 1, 0, 2);
        dueClone("the last two of 18", withText(and(allApart(), 31)), 1, 16, 17);
        dueClone("the first and the last of 18", withText(and(allApart(), 0)), 1, 0, 17);
        dueClone("the last two of all", withText(FULL_TEXT), 16, 0, 32);
        int[] text = repeated(0, 48);
        text[0] = 1;
        dueClone("up to a full text's end", withText(text), 46, 1, 2);
    }

    private static void clonesSmallestIndexes() {
        dueClone("three alike", withText(1, 2, 9, 1, 2, 8, 1, 2), 2, 0, 3);
        dueClone("two kinds, one within the other", withText(3, 4, 1, 2, 9, 1, 2, 8, 3, 4), 2, 0, 8);
        dueClone("a shorter one before", withText(5, 6, 5, 1, 16, 2, 7, 1, 30, 2), 3, 3, 7);
        dueClone("the longer one later", withText(1, 2, 8, 1, 2, 9, 1, 2, 8), 3, 0, 6);
    }

    private static void clonesForgetTheClearedText() {
        Finder f = withText(repeated(16, 48));
        f.clearText();
        addText(f, 1, 2, 1);
        dueClone("a text behind a longer one", f, 1, 0, 2);
        f.change(2, 3);
        dueClone("its last token changed", f, 0, NONE, NONE);
    }

    // Promise 14

    private static void kindsOutside() {
        for (int[] text : TEXTS) {
            int n = text.length;
            for (int length : new int[] {0, n + 1, -1, n + 2, -n, 49, 1 << 16, MIN, MIN + 1, MAX, MAX - n}) {
                due("kinds(" + length + ") of " + n, withText(text).kinds(length), 0);
            }
        }
        for (int length = 0; length <= 48; length++) {
            due("kinds(" + length + ") of an empty text", withText().kinds(length), 0);
        }
        Finder f = withText(FULL_TEXT);
        f.clearText();
        addText(f, SOME_TEXT);
        due("kinds of a length that a cleared text had", f.kinds(6), 0);
        due("kinds of the length that the text has", f.kinds(5), 1);
    }

    private static void kindsInside() {
        for (int n = 1; n <= 48; n++) {
            Finder same = withText(repeated(16, n));
            for (int length = 1; length <= n; length++) {
                due("kinds(" + length + ") of " + n + " alike", same.kinds(length), 1);
            }
        }
        Finder apart = withText(allApart());
        for (int length = 1; length <= 17; length++) {
            due("kinds(" + length + ") of 17 apart", apart.kinds(length), 18 - length);
        }
        Finder full = withText(FULL_TEXT);
        due("kinds(1) of the full text", full.kinds(1), 17);
        due("kinds(16) of the full text", full.kinds(16), 32);
        due("kinds(17) of the full text", full.kinds(17), 32);
        due("kinds(47) of the full text", full.kinds(47), 2);
        due("kinds(48) of the full text", full.kinds(48), 1);
    }

    private static void kindsCountsTheLastWindow() {
        int[] text = repeated(0, 48);
        text[47] = 16;
        Finder f = withText(text);
        for (int length = 1; length <= 47; length++) {
            due("kinds(" + length + ") with another last token", f.kinds(length), 2);
        }
        due("kinds(48) with another last token", f.kinds(48), 1);
    }

    // Promise 15

    private static void reachRefusesOtherPlaces() {
        for (int[] text : TEXTS) {
            int n = text.length;
            for (int bad : new int[] {-1, n, n + 1, -n - 1, 48, 49, 1 << 16, MIN, MIN + n, MAX}) {
                Finder f = withText(text);
                String where = " of " + n;
                due("reach(" + bad + ", 0)" + where, f.reach(bad, 0), BAD_PLACE);
                due("reach(0, " + bad + ")" + where, f.reach(0, bad), BAD_PLACE);
                due("reach(" + bad + ", " + (n - 1) + ")" + where, f.reach(bad, n - 1), BAD_PLACE);
                due("reach(" + (n - 1) + ", " + bad + ")" + where, f.reach(n - 1, bad), BAD_PLACE);
                due("reach(" + bad + ", " + bad + ")" + where, f.reach(bad, bad), BAD_PLACE);
                due("reach(" + bad + ", -1)" + where, f.reach(bad, -1), BAD_PLACE);
                due("reach(" + n + ", " + bad + ")" + where, f.reach(n, bad), BAD_PLACE);
            }
        }
        due("reach(0, 0) of an empty text", withText().reach(0, 0), BAD_PLACE);
        Finder f = withText(FULL_TEXT);
        f.clearText();
        f.text(0);
        due("reach(0, 1) behind a cleared text", f.reach(0, 1), BAD_PLACE);
        due("reach(0, 0) behind a cleared text", f.reach(0, 0), 1);
    }

    private static void reachTakesFirstAndLast() {
        for (int n = 1; n <= 48; n++) {
            Finder f = withText(repeated(31, n));
            due("reach(0, 0) of " + n, f.reach(0, 0), n);
            due("reach(0, " + (n - 1) + ") of " + n, f.reach(0, n - 1), 1);
            due("reach(" + (n - 1) + ", 0) of " + n, f.reach(n - 1, 0), 1);
            due("reach(last, last) of " + n, f.reach(n - 1, n - 1), 1);
        }
    }

    private static void reachOfNone() {
        Finder f = withText(0, 15, 16, 0);
        due("reach of two keywords", f.reach(0, 1), 0);
        due("reach of keyword and name", f.reach(1, 2), 0);
        due("reach of name and keyword", f.reach(2, 1), 0);
        due("reach to the last place", f.reach(1, 3), 0);
        due("reach from the last place", f.reach(3, 1), 0);
    }

    private static void reachEndsWithTheText() {
        Finder f = withText(FULL_TEXT);
        due("reach(0, 32) up to the end", f.reach(0, 32), 16);
        due("reach(32, 0) up to the end", f.reach(32, 0), 16);
        due("reach(15, 47) up to the end", f.reach(15, 47), 1);
        for (int i = 0; i < 48; i++) {
            due("reach(" + i + ", " + i + ")", f.reach(i, i), 48 - i);
        }
        Finder shorter = withText(repeated(16, 48));
        shorter.clearText();
        addText(shorter, 16, 16, 16);
        due("reach(0, 1) of what is left", shorter.reach(0, 1), 2);
    }

    private static void reachEndsAtTheFirstUnlikePlace() {
        for (int length = 0; length < 24; length++) {
            int[] text = repeated(7, 48);
            text[24 + length] = 8;
            due("reach(0, 24) up to another keyword", withText(text).reach(0, 24), length);
            text[24 + length] = 16;
            due("reach(24, 0) up to a name", withText(text).reach(24, 0), length);
        }
    }

    // Promise 16

    private static void textTestsTheCodeFirst() {
        for (int code : WRONG_CODES) {
            for (int[] pattern : PATTERNS) {
                refusedText(code, BAD_TOKEN, FULL_TEXT, pattern);
            }
        }
        refusedText(0, FULL, FULL_TEXT, SOME_PATTERN);
        refusedText(31, FULL, FULL_TEXT, SOME_PATTERN);
    }

    private static void patternTestsTheCodeFirst() {
        for (int code : WRONG_CODES) {
            for (int[] text : TEXTS) {
                refusedPattern(code, BAD_TOKEN, text, FULL_PATTERN);
            }
        }
        refusedPattern(0, FULL, SOME_TEXT, FULL_PATTERN);
        refusedPattern(31, FULL, SOME_TEXT, FULL_PATTERN);
    }

    private static void changeTestsThePlaceFirst() {
        for (int code : WRONG_CODES) {
            for (int[] text : TEXTS) {
                for (int index : new int[] {-1, text.length, MIN, MAX}) {
                    refusedChange(index, code, BAD_PLACE, text, SOME_PATTERN);
                }
            }
        }
    }

    private static void test(String words, Runnable body) {
        sentence = words;
        try {
            body.run();
        } catch (RuntimeException thrown) {
            fault("threw " + thrown);
        }
    }

    private static void testTerms() {
        test("Terms: 0 to 15 are KEYWORDS, 16 to 31 are NAMES", ParamCloneFinderBoundaries::keywordsAndNames);
        test("Terms: wherever one list has the same name at two places, so has the other", ParamCloneFinderBoundaries::sameNameInBoth);
        test("Terms: the same name at any two places of a full pattern", ParamCloneFinderBoundaries::sameNameAtAnyTwoPlaces);
        test("Terms: the same name at any two places of half a full text", ParamCloneFinderBoundaries::sameNameAtAnyTwoPlacesOfHalves);
        test("Terms: the calls below change nothing", ParamCloneFinderBoundaries::queriesChangeNothing);
        test("An object is used for at most 512 calls", ParamCloneFinderBoundaries::lastOf512Calls);
        test("An object is used for at most 512 calls, clears", ParamCloneFinderBoundaries::lastClearsOf512Calls);
        test("An object is used for at most 512 calls, filled again and again", ParamCloneFinderBoundaries::manyTextsOneAfterAnother);
    }

    private static void testTextCalls() {
        test("1: empty text", ParamCloneFinderBoundaries::newTextIsEmpty);
        test("1: empty pattern", ParamCloneFinderBoundaries::newPatternIsEmpty);
        test("1: a new object, beside a full one", ParamCloneFinderBoundaries::newBesideAFullOne);
        test("2: a token is appended, 0 to 31", ParamCloneFinderBoundaries::textTakes0To31);
        test("2: code not in 0 to 31: BAD_TOKEN; nothing changes then", ParamCloneFinderBoundaries::textRefusesOtherCodes);
        test("2: up to 48", ParamCloneFinderBoundaries::textTakes48);
        test("2: the text has 48: FULL; nothing changes then", ParamCloneFinderBoundaries::textRefusesThe49th);
        test("2: else answers the text's length", ParamCloneFinderBoundaries::textAnswersTheLength);
        test("3: index in 0 to length - 1", ParamCloneFinderBoundaries::changeTakesFirstAndLast);
        test("3: index not in 0 to length - 1: BAD_PLACE; nothing changes then", ParamCloneFinderBoundaries::changeRefusesOtherPlaces);
        test("3: length - 1, of the text as it is now", ParamCloneFinderBoundaries::changeFollowsTheLength);
        test("3: code in 0 to 31", ParamCloneFinderBoundaries::changeTakes0To31);
        test("3: code not in 0 to 31: BAD_TOKEN; nothing changes then", ParamCloneFinderBoundaries::changeRefusesOtherCodes);
        test("3: else answers the old code", ParamCloneFinderBoundaries::changeAnswersTheOldCode);
    }

    private static void testPatternCalls() {
        test("4: a token is appended, 0 to 31", ParamCloneFinderBoundaries::patternTakes0To31);
        test("4: code not in 0 to 31: BAD_TOKEN; nothing changes then", ParamCloneFinderBoundaries::patternRefusesOtherCodes);
        test("4: up to 12", ParamCloneFinderBoundaries::patternTakes12);
        test("4: the pattern has 12: FULL; nothing changes then", ParamCloneFinderBoundaries::patternRefusesThe13th);
        test("4: else answers the pattern's length", ParamCloneFinderBoundaries::patternAnswersTheLength);
        test("5: n in 1 to 12", ParamCloneFinderBoundaries::patternFromTakes1To12);
        test("5: n not in 1 to 12: BAD_PLACE, nothing changes", ParamCloneFinderBoundaries::patternFromRefusesOtherLengths);
        test("5: the first and the last window", ParamCloneFinderBoundaries::patternFromTakesFirstAndLastWindow);
        test("5: there is no such window: BAD_PLACE, nothing changes", ParamCloneFinderBoundaries::patternFromRefusesWindowsOutside);
        test("5: no such window where index + n wraps around", ParamCloneFinderBoundaries::patternFromWrapsNoSum);
        test("5: windows of the text as it is now", ParamCloneFinderBoundaries::patternFromFollowsTheLength);
        test("6: empties the pattern", ParamCloneFinderBoundaries::clearPatternInEveryState);
        test("7: empties the text", ParamCloneFinderBoundaries::clearTextInEveryState);
    }

    private static void testMatchCalls() {
        test("8: 0 if the pattern is empty", ParamCloneFinderBoundaries::matchesOfAnEmptyPattern);
        test("8: windows of an empty text", ParamCloneFinderBoundaries::matchesInAnEmptyText);
        test("8: windows of the pattern's length", ParamCloneFinderBoundaries::matchesOfTheTextsLength);
        test("8: i + L at most the text's length", ParamCloneFinderBoundaries::matchesNotBehindTheEnd);
        test("8: windows of a full text", ParamCloneFinderBoundaries::matchesInAFullText);
        test("9: number n, from 0 and from left to right", ParamCloneFinderBoundaries::matchAtCountsFrom0);
        test("9: NONE if there is none", ParamCloneFinderBoundaries::matchAtHasNoSuchNumber);
        test("9: NONE if there is none, empty pattern or text", ParamCloneFinderBoundaries::matchAtOfEmptyPatternOrText);
        test("10: NONE if there is no such window", ParamCloneFinderBoundaries::renamedHasNoSuchWindow);
        test("10: NONE if name doesn't occur in the pattern", ParamCloneFinderBoundaries::renamedOfAbsentNames);
        test("10: name is 16 to 31", ParamCloneFinderBoundaries::renamedTakesNames16To31);
        test("10: NONE if name is not 16 to 31", ParamCloneFinderBoundaries::renamedOfNoNames);
    }

    private static void testWindowCalls() {
        test("11: 0 if there are none", ParamCloneFinderBoundaries::noClone);
        test("12: NONE if longestClone is 0", ParamCloneFinderBoundaries::cloneFirstOfNone);
        test("13: NONE if longestClone is 0", ParamCloneFinderBoundaries::cloneSecondOfNone);
        test("11: at different indexes (they may overlap)", ParamCloneFinderBoundaries::clonesOverlap);
        test("11 to 13: windows at the text's ends", ParamCloneFinderBoundaries::clonesAtTheEnds);
        test("12, 13: the smallest index", ParamCloneFinderBoundaries::clonesSmallestIndexes);
        test("11 to 13: i + L at most the text's length", ParamCloneFinderBoundaries::clonesForgetTheClearedText);
        test("14: 0 if L is not in 1 to the text's length", ParamCloneFinderBoundaries::kindsOutside);
        test("14: L in 1 to the text's length", ParamCloneFinderBoundaries::kindsInside);
        test("14: the last window", ParamCloneFinderBoundaries::kindsCountsTheLastWindow);
        test("15: i or j not in 0 to the text's length - 1: BAD_PLACE", ParamCloneFinderBoundaries::reachRefusesOtherPlaces);
        test("15: i and j in 0 to the text's length - 1", ParamCloneFinderBoundaries::reachTakesFirstAndLast);
        test("15: 0 if there is none", ParamCloneFinderBoundaries::reachOfNone);
        test("15: the greatest L, up to the text's end", ParamCloneFinderBoundaries::reachEndsWithTheText);
        test("15: the greatest L, up to an unlike place", ParamCloneFinderBoundaries::reachEndsAtTheFirstUnlikePlace);
    }

    private static void testOrder() {
        test("16: text: BAD_TOKEN is tested before FULL", ParamCloneFinderBoundaries::textTestsTheCodeFirst);
        test("16: pattern: BAD_TOKEN is tested before FULL", ParamCloneFinderBoundaries::patternTestsTheCodeFirst);
        test("16: change: BAD_PLACE is tested before BAD_TOKEN", ParamCloneFinderBoundaries::changeTestsThePlaceFirst);
    }

    // A call that doesn't end is a fault too; all tests together take less than a second.
    private static void stopIfACallDoesNotEnd() {
        Thread guard = new Thread(() -> {
            try {
                Thread.sleep(100_000);
            } catch (InterruptedException unexpected) {
                return;
            }
            System.out.println(sentence + "\n    a call doesn't end");
            System.exit(1);
        });
        guard.setDaemon(true);
        guard.start();
    }

    public static void main(String[] args) {
        stopIfACallDoesNotEnd();
        testTerms();
        testTextCalls();
        testPatternCalls();
        testMatchCalls();
        testWindowCalls();
        testOrder();
        if (wrong != 0) {
            System.out.println(wrong + " answers are not as due");
            System.exit(1);
        }
    }
}
