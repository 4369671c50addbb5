import java.lang.reflect.Constructor;
import java.lang.reflect.Field;
import java.lang.reflect.Method;
import java.lang.reflect.Modifier;
import java.util.List;
import java.util.TreeSet;

/** The class shows the document's face and nothing else, as the first rules of ../shared/LANGUAGE.md ask. */
final class FaceTest {
    private static final List<String> METHODS = List.of("int letter(int)", "int blank()", "int fault()", "int floor()",
        "int hook(int,int)", "int parcel(int,int)", "int belt(int,int)", "int as(int,int)", "int toss(int,int)", "int carry(int)",
        "int change(int)", "int exchange(int,int)", "int odds(int,int,int)", "int hanging(int)", "int found(int,int)",
        "int forget()", "int hung()", "int where(int)", "int shifts(int,int,int)", "int image()", "int restore()",
        "int count(int)", "long digest()");
    private static final Checks CHECKS = new Checks();

    public static void main(String[] args) {
        same("methods", methods(), new TreeSet<>(METHODS));
        same("constants", constants(), new TreeSet<>(List.of("NONE", "UNKNOWN", "OUTSIDE", "STATE", "FULL")));
        constructors();
        classes();
        CHECKS.end();
    }

    private static void same(String what, TreeSet<String> got, TreeSet<String> want) {
        CHECKS.due(what + " " + got + " instead of " + want, got.equals(want) ? 1 : 0, 1);
    }

    private static TreeSet<String> methods() {
        TreeSet<String> shown = new TreeSet<>();
        TreeSet<String> names = new TreeSet<>();
        for (Method m : ThrownSacks.class.getDeclaredMethods()) {
            if (!Modifier.isPrivate(m.getModifiers()) && !m.isSynthetic()) {
                StringBuilder types = new StringBuilder();
                for (Class<?> type : m.getParameterTypes()) {
                    types.append(types.length() == 0 ? "" : ",").append(type);
                }
                shown.add(m.getReturnType() + " " + m.getName() + "(" + types + ")");
                names.add(m.getName());
                CHECKS.due(m.getName() + " is public and not static", m.getModifiers(), Modifier.PUBLIC);
            }
        }
        for (Method m : ThrownSacks.class.getDeclaredMethods()) {
            if (Modifier.isPrivate(m.getModifiers())) {
                CHECKS.due("private " + m.getName() + " bears a public name", names.contains(m.getName()) ? 1 : 0, 0);
            }
        }
        return shown;
    }

    private static TreeSet<String> constants() {
        TreeSet<String> shown = new TreeSet<>();
        for (Field f : ThrownSacks.class.getDeclaredFields()) {
            if (!Modifier.isPrivate(f.getModifiers()) && !f.isSynthetic()) {
                shown.add(f.getName());
                CHECKS.due(f.getName() + " is a constant", f.getModifiers(), Modifier.PUBLIC | Modifier.STATIC | Modifier.FINAL);
            }
            if (Modifier.isStatic(f.getModifiers())) {
                CHECKS.due(f.getName() + " is final", f.getModifiers() & Modifier.FINAL, Modifier.FINAL);
            }
        }
        return shown;
    }

    private static void constructors() {
        Constructor<?>[] all = ThrownSacks.class.getDeclaredConstructors();
        CHECKS.due("constructors", all.length, 1);
        CHECKS.due("the constructor is public", all[0].getModifiers(), Modifier.PUBLIC);
        CHECKS.due("the constructor takes nothing", all[0].getParameterCount(), 0);
        CHECKS.due("public and final", ThrownSacks.class.getModifiers(), Modifier.PUBLIC | Modifier.FINAL);
    }

    private static void classes() {
        for (Class<?> c : ThrownSacks.class.getDeclaredClasses()) {
            int shown = c.getModifiers() & (Modifier.PUBLIC | Modifier.PROTECTED);
            CHECKS.due(c + " is private or package-visible", shown, 0);
            CHECKS.due(c + " is static", c.getModifiers() & Modifier.STATIC, Modifier.STATIC);
        }
    }
}
