import java.lang.reflect.Constructor;
import java.lang.reflect.Field;
import java.lang.reflect.Method;
import java.lang.reflect.Modifier;
import java.util.ArrayList;
import java.util.List;
import java.util.TreeSet;

/** The class has the document's public face and no other member that is not private. */
public final class FaceTest {
    private static final String IAE = "IllegalArgumentException";
    private static final String ISE = "IllegalStateException";
    private static final String UOE = "UnsupportedOperationException";
    private static final String NSE = "NoSuchElementException";

    private static final List<String> FACE = List.of(
            "new TabletLine(int, int, int)",
            "void plunge(int, int, boolean) throws " + IAE,
            "void wire(int, boolean) throws " + IAE,
            "int take(int, int) throws " + IAE,
            "void give(int, int, int) throws " + IAE + ", " + ISE,
            "void train(int, int) throws " + IAE + ", " + ISE,
            "void hand(int, int) throws " + IAE + ", " + ISE,
            "int back(int) throws " + IAE + ", " + ISE,
            "int enter(int, boolean) throws " + IAE + ", " + ISE + ", " + UOE + ", " + NSE,
            "int arrive(int) throws " + IAE + ", " + ISE,
            "int switchOut(int) throws " + IAE,
            "int switchIn(int) throws " + IAE,
            "void carry(int, int, int) throws " + IAE + ", " + ISE + ", " + NSE,
            "int phase(int, int) throws " + IAE,
            "int slide(int, int) throws " + IAE,
            "int where(int) throws " + IAE,
            "int place(int) throws " + IAE,
            "int spend(int, int) throws " + IAE,
            "boolean out(int) throws " + IAE);

    public static void main(String[] args) {
        Checks checks = new Checks();
        TreeSet<String> found = new TreeSet<>();
        TreeSet<String> publicNames = new TreeSet<>();
        for (Constructor<?> c : TabletLine.class.getDeclaredConstructors()) {
            found.add("new TabletLine(" + names(c.getParameterTypes()) + ")" + thrown(c.getExceptionTypes()));
        }
        for (Method m : TabletLine.class.getDeclaredMethods()) {
            if (!Modifier.isPrivate(m.getModifiers())) {
                publicNames.add(m.getName());
                found.add(names(m.getReturnType()) + " " + m.getName() + "(" + names(m.getParameterTypes()) + ")"
                        + thrown(m.getExceptionTypes()));
                checks.due(m.getName() + " is public and not static", m.getModifiers(), Modifier.PUBLIC);
            }
        }
        checks.due("the face", String.join("; ", found), String.join("; ", new TreeSet<>(FACE)));
        checks.due("public final class", TabletLine.class.getModifiers(), Modifier.PUBLIC | Modifier.FINAL);
        privateOnly(checks, publicNames);
        checks.end();
    }

    private static void privateOnly(Checks checks, TreeSet<String> publicNames) {
        for (Method m : TabletLine.class.getDeclaredMethods()) {
            if (Modifier.isPrivate(m.getModifiers())) {
                checks.due("a private method named " + m.getName(), publicNames.contains(m.getName()), false);
            }
        }
        for (Field f : TabletLine.class.getDeclaredFields()) {
            checks.due("field " + f.getName() + " is private", Modifier.isPrivate(f.getModifiers()), true);
            if (Modifier.isStatic(f.getModifiers())) {
                checks.due("static field " + f.getName() + " is final", Modifier.isFinal(f.getModifiers()), true);
            }
        }
        for (Class<?> c : TabletLine.class.getDeclaredClasses()) {
            checks.due("class " + c.getSimpleName() + " is static", Modifier.isStatic(c.getModifiers()), true);
        }
    }

    private static String names(Class<?>... types) {
        List<String> all = new ArrayList<>();
        for (Class<?> type : types) {
            all.add(type.getSimpleName());
        }
        return String.join(", ", all);
    }

    private static String thrown(Class<?>[] types) {
        return types.length == 0 ? "" : " throws " + names(types);
    }
}
