// One method for each promise of the document: ordinary inputs, the edges it names, wrong inputs.
public final class ParamCloneFinderPromises {
    private static final int BAD_TOKEN = -1;
    private static final int FULL = -2;
    private static final int BAD_PLACE = -3;
    private static final int NONE = -4;
    private static final int MIN = Integer.MIN_VALUE;
    private static final int MAX = Integer.MAX_VALUE;

    private static int wrong = 0;

    private static void due(String what, int got, int want) {
        if (got != want) {
            wrong++;
            System.out.println(what + " answered " + got + ", due is " + want);
        }
    }

    private static ParamCloneFinder withText(int... codes) {
        ParamCloneFinder x = new ParamCloneFinder();
        addText(x, codes);
        return x;
    }

    private static void addText(ParamCloneFinder x, int... codes) {
        for (int code : codes) {
            x.text(code);
        }
    }

    private static void setPattern(ParamCloneFinder x, int... codes) {
        x.clearPattern();
        for (int code : codes) {
            x.pattern(code);
        }
    }

    // change answers the old code, and writing it back leaves the text as it was.
    private static void dueText(String what, ParamCloneFinder x, int... want) {
        for (int k = 0; k < want.length; k++) {
            int old = x.change(k, 0);
            due(what + ": token " + k, old, want[k]);
            x.change(k, old);
        }
        due(what + ": place behind the text", x.change(want.length, 0), BAD_PLACE);
    }

    // The pattern is seen through an appended token's answer only, so this spoils it.
    private static void duePatternLength(String what, ParamCloneFinder x, int want) {
        due(what + ": pattern's length and one", x.pattern(0), want + 1);
    }

    private static void newObject() {
        ParamCloneFinder x = new ParamCloneFinder();
        due("1: matches", x.matches(), 0);
        due("1: matchAt(0)", x.matchAt(0), NONE);
        due("1: renamed(0, 16)", x.renamed(0, 16), NONE);
        due("1: longestClone", x.longestClone(), 0);
        due("1: cloneFirst", x.cloneFirst(), NONE);
        due("1: cloneSecond", x.cloneSecond(), NONE);
        due("1: kinds(0)", x.kinds(0), 0);
        due("1: kinds(1)", x.kinds(1), 0);
        due("1: reach(0, 0)", x.reach(0, 0), BAD_PLACE);
        due("1: change(0, 0)", x.change(0, 0), BAD_PLACE);
        due("1: patternFrom(0, 1)", x.patternFrom(0, 1), BAD_PLACE);
        due("1: text", x.text(5), 1);
        due("1: pattern", x.pattern(5), 1);
        ParamCloneFinder y = new ParamCloneFinder();
        due("1: second object's text", y.text(6), 1);
        due("1: second object's pattern", y.pattern(6), 1);
        dueText("1: first object", x, 5);
        dueText("1: second object", y, 6);
    }

    private static void text() {
        ParamCloneFinder x = new ParamCloneFinder();
        for (int code : new int[] {-1, 32, MIN, MAX}) {
            due("2: text(" + code + ")", x.text(code), BAD_TOKEN);
        }
        int[] want = new int[48];
        for (int k = 0; k < 48; k++) {
            want[k] = k % 32;
            due("2: text " + k, x.text(k % 32), k + 1);
        }
        due("2: text when full", x.text(0), FULL);
        due("2: text when full", x.text(31), FULL);
        dueText("2: full text", x, want);
        ParamCloneFinder y = withText(1, -1, 2, 32, 3);
        dueText("2: wrong tokens leave no trace", y, 1, 2, 3);
        due("2: next length", y.text(4), 4);
    }

    private static void change() {
        ParamCloneFinder x = withText(3, 16, 31);
        due("3: first", x.change(0, 17), 3);
        due("3: last", x.change(2, 0), 31);
        due("3: again", x.change(2, 31), 0);
        due("3: to the same", x.change(1, 16), 16);
        dueText("3: changed text", x, 17, 16, 31);
        for (int index : new int[] {-1, 3, 48, MIN, MAX}) {
            due("3: change(" + index + ", 0)", x.change(index, 0), BAD_PLACE);
        }
        for (int code : new int[] {-1, 32, MIN, MAX}) {
            due("3: change(1, " + code + ")", x.change(1, code), BAD_TOKEN);
        }
        dueText("3: wrong changes", x, 17, 16, 31);
        due("3: length is kept", x.text(0), 4);
        ParamCloneFinder y = withText(1, 16, 2, 17);
        due("3: clone before", y.longestClone(), 1);
        y.change(2, 1);
        due("3: clone after", y.longestClone(), 2);
    }

    private static void pattern() {
        ParamCloneFinder x = withText(0, 1, 2, 3, 4, 5, 6, 7, 8, 9, 10, 31);
        for (int code : new int[] {-1, 32, MIN, MAX}) {
            due("4: pattern(" + code + ")", x.pattern(code), BAD_TOKEN);
        }
        for (int k = 0; k < 11; k++) {
            due("4: pattern " + k, x.pattern(k), k + 1);
            due("4: matches of " + (k + 1), x.matches(), 1);
        }
        due("4: twelfth", x.pattern(16), 12);
        due("4: when full", x.pattern(0), FULL);
        due("4: when full", x.pattern(31), FULL);
        due("4: matches of 12", x.matches(), 1);
        due("4: renamed", x.renamed(0, 16), 31);
        ParamCloneFinder y = withText(1, 2);
        setPattern(y, 1, -1, 2, 32);
        due("4: wrong tokens leave no trace", y.matches(), 1);
        duePatternLength("4: wrong tokens", y, 2);
    }

    private static void patternFrom() {
        ParamCloneFinder x = withText(1, 16, 2, 17, 3, 16, 4, 5, 6, 7, 8, 9, 10);
        setPattern(x, 3, 20);
        for (int n : new int[] {0, -1, 13, MIN, MAX}) {
            due("5: patternFrom(0, " + n + ")", x.patternFrom(0, n), BAD_PLACE);
        }
        for (int index : new int[] {-1, 13, 48, MIN, MAX}) {
            due("5: patternFrom(" + index + ", 1)", x.patternFrom(index, 1), BAD_PLACE);
        }
        due("5: one too long", x.patternFrom(2, 12), BAD_PLACE);
        due("5: one too far", x.patternFrom(12, 2), BAD_PLACE);
        due("5: far off", x.patternFrom(MAX, 12), BAD_PLACE);
        due("5: both wrong", x.patternFrom(-1, 0), BAD_PLACE);
        due("5: pattern kept", x.matchAt(0), 4);
        due("5: pattern's name kept", x.renamed(0, 20), 16);
        due("5: last", x.patternFrom(12, 1), 1);
        due("5: last's match", x.matchAt(0), 12);
        due("5: longest", x.patternFrom(1, 12), 12);
        due("5: longest's match", x.matchAt(0), 1);
        due("5: full then", x.pattern(0), FULL);
        due("5: shorter", x.patternFrom(4, 2), 2);
        due("5: shorter's match", x.matchAt(0), 4);
        due("5: old pattern is gone", x.matches(), 1);
        due("5: appended", x.pattern(4), 3);
        due("5: appended's match", x.matchAt(0), 4);
        x.change(4, 11);
        due("5: text's change leaves the pattern", x.matches(), 0);
        addText(x, 3, 30, 4);
        due("5: the copied tokens", x.matchAt(0), 13);
    }

    private static void clearPattern() {
        ParamCloneFinder x = withText(1, 2, 1);
        setPattern(x, 1);
        due("6: before", x.matches(), 2);
        x.clearPattern();
        due("6: matches", x.matches(), 0);
        due("6: matchAt(0)", x.matchAt(0), NONE);
        due("6: pattern", x.pattern(2), 1);
        due("6: match of the new", x.matchAt(0), 1);
        due("6: matches of the new", x.matches(), 1);
        dueText("6: text", x, 1, 2, 1);
        x.clearPattern();
        x.clearPattern();
        duePatternLength("6: twice", x, 0);
    }

    private static void clearText() {
        ParamCloneFinder x = withText(1, 16, 1, 17);
        setPattern(x, 1, 30);
        x.clearText();
        due("7: matches", x.matches(), 0);
        due("7: longestClone", x.longestClone(), 0);
        due("7: cloneFirst", x.cloneFirst(), NONE);
        due("7: kinds(1)", x.kinds(1), 0);
        due("7: reach(0, 0)", x.reach(0, 0), BAD_PLACE);
        due("7: change(0, 0)", x.change(0, 0), BAD_PLACE);
        due("7: patternFrom(0, 1)", x.patternFrom(0, 1), BAD_PLACE);
        due("7: text", x.text(1), 1);
        due("7: old tokens stay away", x.matches(), 0);
        due("7: text", x.text(18), 2);
        due("7: pattern is kept", x.matches(), 1);
        due("7: pattern's name is kept", x.renamed(0, 30), 18);
        x.clearText();
        x.clearText();
        for (int k = 0; k < 48; k++) {
            due("7: room again", x.text(0), k + 1);
        }
        due("7: full again", x.text(0), FULL);
    }

    private static void matches() {
        ParamCloneFinder x = withText(16, 17, 16, 18, 18, 18, 0, 18);
        due("8: empty pattern", x.matches(), 0);
        setPattern(x, 20);
        due("8: any name", x.matches(), 7);
        setPattern(x, 0);
        due("8: keyword", x.matches(), 1);
        setPattern(x, 1);
        due("8: other keyword", x.matches(), 0);
        setPattern(x, 20, 20);
        due("8: same name, overlapping", x.matches(), 2);
        setPattern(x, 20, 21);
        due("8: two names are not one", x.matches(), 3);
        setPattern(x, 17, 16, 17);
        due("8: names that change places", x.matches(), 1);
        setPattern(x, 20, 0, 20);
        due("8: name about a keyword", x.matches(), 1);
        setPattern(x, 20, 0, 21);
        due("8: one-to-one", x.matches(), 0);
        setPattern(x, 16, 17, 16, 18, 18, 18, 0, 18);
        due("8: whole text", x.matches(), 1);
        x.pattern(16);
        due("8: longer than the text", x.matches(), 0);
        ParamCloneFinder y = withText(15, 16);
        setPattern(y, 16);
        due("8: 15 is a keyword, 16 a name", y.matches(), 1);
        setPattern(y, 31);
        due("8: 31 is a name", y.matches(), 1);
        setPattern(y, 15);
        due("8: 15 alone", y.matches(), 1);
        setPattern(y, 14);
        due("8: 14 is not 15", y.matches(), 0);
    }

    private static void matchAt() {
        ParamCloneFinder x = withText(1, 16, 2, 1, 17, 1, 18);
        due("9: empty pattern", x.matchAt(0), NONE);
        setPattern(x, 1, 20);
        due("9: number 0", x.matchAt(0), 0);
        due("9: number 1", x.matchAt(1), 3);
        due("9: number 2, at the end", x.matchAt(2), 5);
        for (int n : new int[] {3, -1, NONE, 48, MIN, MAX}) {
            due("9: matchAt(" + n + ")", x.matchAt(n), NONE);
        }
        setPattern(x, 3);
        due("9: no match", x.matchAt(0), NONE);
    }

    private static void renamed() {
        ParamCloneFinder x = withText(1, 16, 17, 16, 1, 31, 16, 31);
        due("10: empty pattern", x.renamed(0, 16), NONE);
        setPattern(x, 1, 17, 30, 17);
        due("10: renamed(0, 17)", x.renamed(0, 17), 16);
        due("10: renamed(0, 30)", x.renamed(0, 30), 17);
        due("10: renamed(1, 17)", x.renamed(1, 17), 31);
        due("10: renamed(1, 30)", x.renamed(1, 30), 16);
        due("10: name only in the text", x.renamed(0, 16), NONE);
        due("10: name nowhere", x.renamed(0, 20), NONE);
        due("10: keyword of the pattern", x.renamed(0, 1), NONE);
        for (int name : new int[] {-1, 0, 15, 32, MIN, MAX}) {
            due("10: renamed(0, " + name + ")", x.renamed(0, name), NONE);
        }
        for (int n : new int[] {2, -1, NONE, MIN, MAX}) {
            due("10: renamed(" + n + ", 17)", x.renamed(n, 17), NONE);
        }
        setPattern(x, 1, 17);
        due("10: name of a longer pattern before", x.renamed(0, 30), NONE);
        setPattern(x, 31);
        due("10: highest name", x.renamed(0, 31), 16);
        setPattern(x, 16);
        due("10: lowest name", x.renamed(3, 16), 31);
    }

    private static void dueClone(String what, ParamCloneFinder x, int length, int first, int second) {
        due(what + ": longestClone", x.longestClone(), length);
        due(what + ": cloneFirst", x.cloneFirst(), first);
        due(what + ": cloneSecond", x.cloneSecond(), second);
    }

    private static void clones() {
        dueClone("11-13: one token", withText(16), 0, NONE, NONE);
        dueClone("11-13: keywords apart", withText(0, 1, 2, 16), 0, NONE, NONE);
        dueClone("11-13: two names", withText(16, 31), 1, 0, 1);
        dueClone("11-13: two keywords", withText(3, 4, 3), 1, 0, 2);
        dueClone("11-13: overlap", withText(5, 5, 5, 5), 3, 0, 1);
        dueClone("11-13: overlap of new names", withText(16, 17, 18, 19, 20), 4, 0, 1);
        dueClone("11-13: renamed piece", withText(9, 1, 16, 2, 16, 8, 1, 30, 2, 30, 7), 4, 1, 6);
        dueClone("11-13: one-to-one", withText(9, 1, 16, 2, 16, 8, 1, 30, 2, 29, 7), 3, 1, 6);
        dueClone("11-13: first of three", withText(1, 2, 9, 1, 2, 8, 1, 2), 2, 0, 3);
        dueClone("11-13: first of two kinds", withText(3, 4, 1, 2, 9, 1, 2, 8, 3, 4), 2, 0, 8);
        int[] same = new int[48];
        ParamCloneFinder full = withText(same);
        dueClone("11-13: full text", full, 47, 0, 1);
        full.change(47, 1);
        dueClone("11-13: other last token", full, 46, 0, 1);
        full.change(0, 1);
        dueClone("11-13: other first token", full, 45, 1, 2);
    }

    private static void kinds() {
        ParamCloneFinder x = withText(16, 17, 0, 18, 18, 0, 1);
        due("14: kinds(1)", x.kinds(1), 3);
        due("14: kinds(2)", x.kinds(2), 5);
        due("14: kinds(3)", x.kinds(3), 5);
        due("14: kinds(7)", x.kinds(7), 1);
        for (int length : new int[] {0, -1, 8, 48, MIN, MAX}) {
            due("14: kinds(" + length + ")", x.kinds(length), 0);
        }
        ParamCloneFinder full = withText(new int[48]);
        due("14: one kind", full.kinds(1), 1);
        due("14: one kind of 24", full.kinds(24), 1);
        due("14: whole text", full.kinds(48), 1);
        full.change(47, 31);
        due("14: last window", full.kinds(24), 2);
        due("14: beyond the text", full.kinds(49), 0);
    }

    private static void reach() {
        ParamCloneFinder x = withText(1, 16, 17, 16, 1, 18, 19, 19, 2);
        due("15: reach(0, 4)", x.reach(0, 4), 3);
        due("15: reach(4, 0)", x.reach(4, 0), 3);
        due("15: none", x.reach(0, 1), 0);
        due("15: other keywords", x.reach(0, 8), 0);
        due("15: up to the end", x.reach(1, 7), 1);
        due("15: same place", x.reach(0, 0), 9);
        due("15: same last place", x.reach(8, 8), 1);
        due("15: overlap", x.reach(1, 2), 2);
        for (int bad : new int[] {-1, 9, 48, MIN, MAX}) {
            due("15: reach(" + bad + ", 0)", x.reach(bad, 0), BAD_PLACE);
            due("15: reach(0, " + bad + ")", x.reach(0, bad), BAD_PLACE);
            due("15: reach(" + bad + ", same)", x.reach(bad, bad), BAD_PLACE);
        }
        ParamCloneFinder full = withText(new int[48]);
        due("15: full text", full.reach(0, 47), 1);
        due("15: full text", full.reach(1, 0), 47);
        due("15: full text", full.reach(0, 0), 48);
        due("15: one-to-one either way", withText(16, 17, 0, 18, 18).reach(0, 3), 1);
        due("15: one-to-one either way", withText(16, 17, 0, 18, 18).reach(3, 0), 1);
    }

    private static void orderAndLimits() {
        ParamCloneFinder x = withText(new int[48]);
        due("16: text, both wrong", x.text(32), BAD_TOKEN);
        due("16: text, both wrong", x.text(-1), BAD_TOKEN);
        due("16: text, full", x.text(1), FULL);
        for (int k = 0; k < 12; k++) {
            x.pattern(16);
        }
        due("16: pattern, both wrong", x.pattern(32), BAD_TOKEN);
        due("16: pattern, both wrong", x.pattern(-1), BAD_TOKEN);
        due("16: pattern, full", x.pattern(1), FULL);
        due("16: change, both wrong", x.change(48, 32), BAD_PLACE);
        due("16: change, both wrong", x.change(-1, -1), BAD_PLACE);
        due("16: change, code wrong", x.change(47, 32), BAD_TOKEN);
        due("16: change, place wrong", x.change(48, 0), BAD_PLACE);
    }

    public static void main(String[] args) {
        newObject();
        text();
        change();
        pattern();
        patternFrom();
        clearPattern();
        clearText();
        matches();
        matchAt();
        renamed();
        clones();
        kinds();
        reach();
        orderAndLimits();
        if (wrong != 0) {
            System.out.println(wrong + " answers are not as due");
            System.exit(1);
        }
    }
}
