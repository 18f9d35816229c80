import java.lang.reflect.Constructor;
import java.lang.reflect.Field;
import java.lang.reflect.Member;
import java.lang.reflect.Method;
import java.lang.reflect.Modifier;
import java.util.Set;
import java.util.TreeSet;

/** The public face and the constants, and that nothing else of the class can be reached. */
public final class FaceTest {
    private static final Set<String> FACE = new TreeSet<>(Set.of(
            "int REFUSED", "int NONE", "int FULL", "ClassReader()",
            "int bytes(long,int)", "boolean patch(int,int)", "int cut(int)", "int read()", "int where()",
            "int entry(int,int)", "double number(int)", "int text(int,int)", "int told(int,int)",
            "int whole(int)", "int member(boolean,int,int)", "int linkage(int,int)"));

    public static void main(String[] args) throws ReflectiveOperationException {
        Set<String> found = new TreeSet<>();
        Set<String> publicNames = new TreeSet<>();
        for (Field f : ClassReader.class.getDeclaredFields()) {
            if (reached(f)) {
                found.add(f.getType() + " " + f.getName());
                Due.is(f.getName() + " is static and final",
                        () -> Modifier.isStatic(f.getModifiers()) && Modifier.isFinal(f.getModifiers()), true);
            }
        }
        for (Constructor<?> c : ClassReader.class.getDeclaredConstructors()) {
            if (reached(c)) {
                found.add("ClassReader" + list(c.getParameterTypes()));
            }
        }
        for (Method m : ClassReader.class.getDeclaredMethods()) {
            if (reached(m)) {
                found.add(m.getReturnType() + " " + m.getName() + list(m.getParameterTypes()));
                publicNames.add(m.getName());
                Due.is(m.getName() + " is public", () -> Modifier.isPublic(m.getModifiers()), true);
                Due.is(m.getName() + " is static", () -> Modifier.isStatic(m.getModifiers()), false);
            }
        }
        Due.is("the face", () -> found, FACE);
        Due.is("the class is public and final", () -> Modifier.toString(ClassReader.class.getModifiers()), "public final");
        Due.is("REFUSED", () -> ClassReader.REFUSED, -1);
        Due.is("NONE", () -> ClassReader.NONE, -2);
        Due.is("FULL", () -> ClassReader.FULL, -3);
        for (Class<?> inside : ClassReader.class.getDeclaredClasses()) {
            Due.is(inside + " is static and not public", () -> Modifier.isStatic(inside.getModifiers())
                    && !Modifier.isPublic(inside.getModifiers()) && !Modifier.isProtected(inside.getModifiers()), true);
            for (Method m : inside.getDeclaredMethods()) {
                Due.is(m + " has a name of its own", () -> publicNames.contains(m.getName()), false);
            }
        }
        Due.end();
    }

    private static boolean reached(Member m) {
        return !Modifier.isPrivate(m.getModifiers()) && !m.isSynthetic();
    }

    private static String list(Class<?>[] types) {
        StringBuilder s = new StringBuilder("(");
        for (Class<?> type : types) {
            s.append(s.length() > 1 ? "," : "").append(type);
        }
        return s.append(")").toString();
    }
}
