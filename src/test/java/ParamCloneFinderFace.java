import java.lang.reflect.Constructor;
import java.lang.reflect.Field;
import java.lang.reflect.Member;
import java.lang.reflect.Method;
import java.lang.reflect.Modifier;
import java.util.Arrays;
import java.util.Set;
import java.util.TreeSet;

// The class shows the document's public face, and nothing beside it.
public final class ParamCloneFinderFace {
    private static final Set<String> DUE = new TreeSet<>(Arrays.asList(
            "BAD_TOKEN = -1", "FULL = -2", "BAD_PLACE = -3", "NONE = -4",
            "public ParamCloneFinder()",
            "public int ParamCloneFinder.text(int)",
            "public int ParamCloneFinder.change(int,int)",
            "public int ParamCloneFinder.pattern(int)",
            "public int ParamCloneFinder.patternFrom(int,int)",
            "public void ParamCloneFinder.clearPattern()",
            "public void ParamCloneFinder.clearText()",
            "public int ParamCloneFinder.matches()",
            "public int ParamCloneFinder.matchAt(int)",
            "public int ParamCloneFinder.renamed(int,int)",
            "public int ParamCloneFinder.longestClone()",
            "public int ParamCloneFinder.cloneFirst()",
            "public int ParamCloneFinder.cloneSecond()",
            "public int ParamCloneFinder.kinds(int)",
            "public int ParamCloneFinder.reach(int,int)"));

    private static boolean isShown(Member member) {
        return !Modifier.isPrivate(member.getModifiers());
    }

    private static String constant(Field field) throws IllegalAccessException {
        String kind = field.toString();
        String due = "public static final int ParamCloneFinder." + field.getName();
        return kind.equals(due) ? field.getName() + " = " + field.getInt(null) : kind;
    }

    public static void main(String[] args) throws IllegalAccessException {
        Set<String> shown = new TreeSet<>();
        for (Field field : ParamCloneFinder.class.getDeclaredFields()) {
            if (isShown(field)) {
                shown.add(constant(field));
            }
        }
        for (Constructor<?> constructor : ParamCloneFinder.class.getDeclaredConstructors()) {
            shown.add(constructor.toString());
        }
        for (Method method : ParamCloneFinder.class.getDeclaredMethods()) {
            if (isShown(method)) {
                shown.add(method.toString());
            }
        }
        int modifiers = ParamCloneFinder.class.getModifiers();
        boolean isPublicFinal = modifiers == (Modifier.PUBLIC | Modifier.FINAL);
        if (!shown.equals(DUE) || !isPublicFinal) {
            System.out.println("the class is " + Modifier.toString(modifiers) + " and shows " + shown + ", due is public final and " + DUE);
            System.exit(1);
        }
    }
}
