import java.util.ArrayList;
import java.util.HashMap;
import java.util.List;
import java.util.Map;

// Long runs of calls, made from fixed seeds, against a second telling of the document's words.
public final class ParamCloneFinderModel {
    private static final int BAD_TOKEN = -1;
    private static final int FULL = -2;
    private static final int BAD_PLACE = -3;
    private static final int NONE = -4;
    private static final int RUNS = 600;
    private static final int CALLS = 512;

    private final List<Integer> text = new ArrayList<>();
    private final List<Integer> pattern = new ArrayList<>();

    private static boolean isToken(int code) {
        return 0 <= code && code <= 31;
    }

    // Two maps, one for each direction of the renaming; the program keeps none.
    private static boolean alike(List<Integer> a, List<Integer> b) {
        Map<Integer, Integer> there = new HashMap<>();
        Map<Integer, Integer> back = new HashMap<>();
        for (int k = 0; k < a.size(); k++) {
            int x = a.get(k);
            int y = b.get(k);
            if ((x >= 16) != (y >= 16) || (x < 16 && x != y)) {
                return false;
            }
            if (x >= 16) {
                there.putIfAbsent(x, y);
                back.putIfAbsent(y, x);
                if (there.get(x) != y || back.get(y) != x) {
                    return false;
                }
            }
        }
        return true;
    }

    private boolean hasWindow(int i, int length) {
        return 0 <= i && 1 <= length && (long) i + length <= text.size();
    }

    private boolean alikeWindows(int i, int j, int length) {
        return hasWindow(i, length) && hasWindow(j, length)
                && alike(text.subList(i, i + length), text.subList(j, j + length));
    }

    private static int append(List<Integer> list, int code, int room) {
        if (!isToken(code)) {
            return BAD_TOKEN;
        }
        if (list.size() == room) {
            return FULL;
        }
        list.add(code);
        return list.size();
    }

    private int change(int index, int code) {
        if (index < 0 || index >= text.size()) {
            return BAD_PLACE;
        }
        return isToken(code) ? text.set(index, code) : BAD_TOKEN;
    }

    private int patternFrom(int index, int n) {
        if (n < 1 || n > 12 || !hasWindow(index, n)) {
            return BAD_PLACE;
        }
        List<Integer> window = new ArrayList<>(text.subList(index, index + n));
        pattern.clear();
        pattern.addAll(window);
        return n;
    }

    private List<Integer> places() {
        List<Integer> found = new ArrayList<>();
        for (int i = 0; hasWindow(i, pattern.size()); i++) {
            if (alike(pattern, text.subList(i, i + pattern.size()))) {
                found.add(i);
            }
        }
        return found;
    }

    private int matchAt(int n) {
        List<Integer> found = places();
        return n >= 0 && n < found.size() ? found.get(n) : NONE;
    }

    private int renamed(int n, int name) {
        int start = matchAt(n);
        int k = pattern.indexOf(name);
        return start == NONE || name < 16 || k < 0 ? NONE : text.get(start + k);
    }

    // The longest clone, its first and its second index.
    private int[] clone3() {
        for (int length = text.size(); length >= 1; length--) {
            for (int i = 0; i < text.size(); i++) {
                for (int j = i + 1; j < text.size(); j++) {
                    if (alikeWindows(i, j, length)) {
                        return new int[] {length, i, j};
                    }
                }
            }
        }
        return new int[] {0, NONE, NONE};
    }

    private int kinds(int length) {
        int count = 0;
        for (int i = 0; hasWindow(i, length); i++) {
            boolean isNew = true;
            for (int j = 0; j < i; j++) {
                isNew &= !alikeWindows(i, j, length);
            }
            count += isNew ? 1 : 0;
        }
        return count;
    }

    private int reach(int i, int j) {
        if (i < 0 || i >= text.size() || j < 0 || j >= text.size()) {
            return BAD_PLACE;
        }
        int length = text.size();
        while (length > 0 && !alikeWindows(i, j, length)) {
            length--;
        }
        return length;
    }

    private static long seed;

    private static int below(int bound) {
        seed = seed * 6364136223846793005L + 1442695040888963407L;
        return (int) ((seed >>> 33) % bound);
    }

    // Few keywords and names, so that clones are found; now and then any token, or a wrong one.
    private static int code(int variety) {
        int pick = below(40);
        if (pick == 0) {
            return wild();
        }
        if (pick == 1) {
            return below(36) - 2;
        }
        int small = below(variety);
        return below(3) == 0 ? small : 16 + small;
    }

    private static int wild() {
        int[] odd = {Integer.MIN_VALUE, Integer.MAX_VALUE, -1, -4, 12, 13, 32, 47, 48, 49, Integer.MAX_VALUE - 5};
        return odd[below(odd.length)];
    }

    private static int place() {
        return below(25) == 0 ? wild() : below(51) - 1;
    }

    private static int small() {
        return below(25) == 0 ? wild() : below(8) - 1;
    }

    // One call on both; answers a line that tells the difference, or null.
    private static String step(ParamCloneFinder x, ParamCloneFinderModel m, int variety, boolean growing) {
        int a;
        int b;
        switch (growing ? 0 : below(16)) {
            case 0:
            case 1:
                a = code(variety);
                return differs("text(" + a + ")", x.text(a), append(m.text, a, 48));
            case 2:
                a = place();
                b = code(variety);
                return differs("change(" + a + ", " + b + ")", x.change(a, b), m.change(a, b));
            case 3:
                a = code(variety);
                return differs("pattern(" + a + ")", x.pattern(a), append(m.pattern, a, 12));
            case 4:
                a = place();
                b = below(3) == 0 ? below(15) - 1 : small();
                return differs("patternFrom(" + a + ", " + b + ")", x.patternFrom(a, b), m.patternFrom(a, b));
            case 5:
                if (below(3) == 0) {
                    x.clearPattern();
                    m.pattern.clear();
                }
                return null;
            case 6:
                if (below(12) == 0) {
                    x.clearText();
                    m.text.clear();
                }
                return null;
            case 7:
                return differs("matches()", x.matches(), m.places().size());
            case 8:
                a = small();
                return differs("matchAt(" + a + ")", x.matchAt(a), m.matchAt(a));
            case 9:
            case 10:
                a = small();
                b = code(variety);
                return differs("renamed(" + a + ", " + b + ")", x.renamed(a, b), m.renamed(a, b));
            case 11:
                return differs("longestClone()", x.longestClone(), m.clone3()[0]);
            case 12:
                return differs("cloneFirst()", x.cloneFirst(), m.clone3()[1]);
            case 13:
                return differs("cloneSecond()", x.cloneSecond(), m.clone3()[2]);
            case 14:
                a = below(2) == 0 ? small() : place();
                return differs("kinds(" + a + ")", x.kinds(a), m.kinds(a));
            default:
                a = place();
                b = place();
                return differs("reach(" + a + ", " + b + ")", x.reach(a, b), m.reach(a, b));
        }
    }

    private static String differs(String call, int got, int want) {
        return got == want ? null : call + " answered " + got + ", due is " + want;
    }

    public static void main(String[] args) {
        int wrong = 0;
        for (int run = 0; run < RUNS; run++) {
            seed = run;
            int variety = 1 + below(5);
            int grow = below(60);
            ParamCloneFinder x = new ParamCloneFinder();
            ParamCloneFinderModel m = new ParamCloneFinderModel();
            for (int call = 0; call < CALLS; call++) {
                String line = step(x, m, variety, call < grow);
                if (line != null) {
                    wrong++;
                    System.out.println("run " + run + ", call " + call + ": " + line);
                    break;
                }
            }
        }
        if (wrong != 0) {
            System.out.println(wrong + " runs are not as due");
            System.exit(1);
        }
    }
}
