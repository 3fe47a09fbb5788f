import java.lang.reflect.Constructor;
import java.lang.reflect.Field;
import java.lang.reflect.Method;
import java.lang.reflect.Modifier;
import java.util.Arrays;
import java.util.Set;
import java.util.TreeSet;

/** The class shows the document's face and nothing else (rule 1 of LANGUAGE.md). */
public final class FaceTest {
    private static final Set<String> FACE = new TreeSet<>(Arrays.asList(
            "public static final int PLUS", "public static final int MINUS", "public static final int TIMES",
            "public static final int LEAST", "public static final int GREATEST", "public static final int LESS",
            "public static final int EQUAL", "public static final int BAD",
            "public AlgebraicDiagram(int)",
            "public boolean constant(int,int)", "public boolean literal(int,int)",
            "public boolean apply(int,int,int,int)", "public boolean choose(int,int,int,int)",
            "public boolean fold(int,int,int,int)", "public boolean substitute(int,int,int,int)",
            "public boolean exchange(int,int,int,int)", "public int valueAt(int,int)", "public int parts(int)",
            "public int countOf(int,int)", "public boolean same(int,int)", "public int support(int)",
            "public long total(int)", "public int allParts()"));

    public static void main(String[] args) {
        Checks checks = new Checks();
        Set<String> shown = shownMembers();
        for (String member : FACE) {
            checks.due("has " + member, shown.contains(member), true);
        }
        for (String member : shown) {
            checks.due("document tells " + member, FACE.contains(member), true);
        }
        checkClass(checks);
        checkNamesOfPrivateMethods(checks);
        checkConstants(checks);
        checks.end();
    }

    private static void checkClass(Checks checks) {
        Class<?> shown = AlgebraicDiagram.class;
        checks.due("the class is public and final", shown.getModifiers(), Modifier.PUBLIC | Modifier.FINAL);
        checks.due("the class has no package", shown.getPackageName().isEmpty(), true);
        checks.due("the class extends no other", shown.getSuperclass() == Object.class, true);
        checks.due("interfaces", shown.getInterfaces().length, 0);
        checks.due("the class and those nested in it, also without a name", shown.getNestMembers().length, 1);
    }

    /** "No private method bears the name of a public one." */
    private static void checkNamesOfPrivateMethods(Checks checks) {
        Set<String> publicNames = new TreeSet<>();
        for (Method method : AlgebraicDiagram.class.getMethods()) {
            publicNames.add(method.getName());
        }
        for (Method method : AlgebraicDiagram.class.getDeclaredMethods()) {
            if (Modifier.isPrivate(method.getModifiers())) {
                checks.due("private " + method.getName(), publicNames.contains(method.getName()), false);
            }
        }
    }

    private static Set<String> shownMembers() {
        Set<String> shown = new TreeSet<>();
        for (Field field : AlgebraicDiagram.class.getDeclaredFields()) {
            if (!Modifier.isPrivate(field.getModifiers())) {
                shown.add(Modifier.toString(field.getModifiers()) + " " + field.getType() + " " + field.getName());
            }
        }
        for (Method method : AlgebraicDiagram.class.getDeclaredMethods()) {
            if (!Modifier.isPrivate(method.getModifiers())) {
                shown.add(method.toString().replace("AlgebraicDiagram.", ""));
            }
        }
        for (Constructor<?> constructor : AlgebraicDiagram.class.getDeclaredConstructors()) {
            if (!Modifier.isPrivate(constructor.getModifiers())) {
                shown.add(constructor.toString());
            }
        }
        return shown;
    }

    private static void checkConstants(Checks checks) {
        checks.due("PLUS", AlgebraicDiagram.PLUS, 0);
        checks.due("MINUS", AlgebraicDiagram.MINUS, 1);
        checks.due("TIMES", AlgebraicDiagram.TIMES, 2);
        checks.due("LEAST", AlgebraicDiagram.LEAST, 3);
        checks.due("GREATEST", AlgebraicDiagram.GREATEST, 4);
        checks.due("LESS", AlgebraicDiagram.LESS, 5);
        checks.due("EQUAL", AlgebraicDiagram.EQUAL, 6);
        checks.due("BAD", AlgebraicDiagram.BAD, -1);
    }
}
