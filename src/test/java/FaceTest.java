import java.lang.reflect.Constructor;
import java.lang.reflect.Field;
import java.lang.reflect.Method;
import java.lang.reflect.Modifier;
import java.util.Set;
import java.util.TreeSet;

/** The public face of the document, and no other member that is not private. */
public final class FaceTest {
    public static void main(String[] args) {
        constants();
        Check.due("the class is public and final", Modifier.PUBLIC | Modifier.FINAL, RuleAnomaly.class.getModifiers());
        Set<String> want = new TreeSet<>(Set.of(
            "public static final int CLEAN", "public static final int SHADOWED", "public static final int USELESS",
            "public static final int REDUNDANT", "public static final int CORRELATED", "public static final int GENERAL",
            "public static final int BAD", "public static final int FULL", "public static final int NONE",
            "public RuleAnomaly()",
            "public boolean draftRange(int, int, int)", "public boolean draftSet(int)",
            "public int insert(int, int)", "public int remove(int)", "public int decider(int, int, int)",
            "public int owned(int)", "public int firstOwned(int)", "public int fault(int)",
            "public int save()", "public int changed()", "public int firstChanged()"));
        Set<String> got = members();
        if (!got.equals(want)) {
            System.out.println("the face is " + got + ", due is " + want);
        }
        Check.due("the face is as due", true, got.equals(want));
        Check.finish();
    }

    private static void constants() {
        Check.due("CLEAN", 0, RuleAnomaly.CLEAN);
        Check.due("SHADOWED", 1, RuleAnomaly.SHADOWED);
        Check.due("USELESS", 2, RuleAnomaly.USELESS);
        Check.due("REDUNDANT", 3, RuleAnomaly.REDUNDANT);
        Check.due("CORRELATED", 4, RuleAnomaly.CORRELATED);
        Check.due("GENERAL", 5, RuleAnomaly.GENERAL);
        Check.due("BAD", -1, RuleAnomaly.BAD);
        Check.due("FULL", -2, RuleAnomaly.FULL);
        Check.due("NONE", -3, RuleAnomaly.NONE);
    }

    private static Set<String> members() {
        Set<String> found = new TreeSet<>();
        for (Field field : RuleAnomaly.class.getDeclaredFields()) {
            add(found, field.getModifiers(), field.getType().getName() + " " + field.getName());
        }
        for (Constructor<?> made : RuleAnomaly.class.getDeclaredConstructors()) {
            add(found, made.getModifiers(), "RuleAnomaly(" + types(made.getParameterTypes()) + ")");
        }
        for (Method method : RuleAnomaly.class.getDeclaredMethods()) {
            String name = method.getReturnType().getName() + " " + method.getName();
            add(found, method.getModifiers(), name + "(" + types(method.getParameterTypes()) + ")");
        }
        return found;
    }

    private static void add(Set<String> found, int modifiers, String text) {
        if (!Modifier.isPrivate(modifiers)) {
            found.add(Modifier.toString(modifiers) + " " + text);
        }
    }

    private static String types(Class<?>[] types) {
        StringBuilder text = new StringBuilder();
        for (Class<?> type : types) {
            text.append(text.length() == 0 ? "" : ", ").append(type.getName());
        }
        return text.toString();
    }
}
