import java.lang.reflect.Constructor;
import java.lang.reflect.Field;
import java.lang.reflect.Method;
import java.lang.reflect.Modifier;
import java.util.HashSet;
import java.util.Set;
import java.util.TreeSet;

/** The class shows the document's public face and nothing else (rules 1, 2, 5 and 10 of LANGUAGE.md). */
public final class FaceTest {
    private static final Set<String> FACE = Set.of(
            "int open(int)", "int text(int)", "int close()", "int remove(int)", "void start()",
            "int step(int,int,int)", "int having(int,int,boolean)", "int valued(int,int)",
            "void keep(int)", "int mix(int,int)", "int node(int)", "int sum()");
    private static int wrong = 0;

    public static void main(String[] args) {
        Class<?> face = TreePaths.class;
        check("the class is public and final",
                Modifier.isPublic(face.getModifiers()) && Modifier.isFinal(face.getModifiers()));
        check("the class extends Object alone",
                face.getSuperclass() == Object.class && face.getInterfaces().length == 0);
        check("the class has no class inside", face.getDeclaredClasses().length == 0);
        checkConstructors(face);
        checkMethods(face);
        checkFields(face);
        System.out.println(wrong == 0 ? "the face is as due" : wrong + " faults in the face");
        if (wrong != 0) {
            System.exit(1);
        }
    }

    private static void check(String what, boolean holds) {
        if (!holds) {
            wrong++;
            System.out.println("not so: " + what);
        }
    }

    private static void checkConstructors(Class<?> face) {
        Constructor<?>[] made = face.getDeclaredConstructors();
        check("there is one constructor, public and without parameters", made.length == 1
                && Modifier.isPublic(made[0].getModifiers()) && made[0].getParameterCount() == 0);
    }

    private static String signature(Method method) {
        StringBuilder types = new StringBuilder();
        for (Class<?> type : method.getParameterTypes()) {
            types.append(types.length() == 0 ? "" : ",").append(type.getName());
        }
        return method.getReturnType().getName() + " " + method.getName() + "(" + types + ")";
    }

    private static void checkMethods(Class<?> face) {
        Set<String> shown = new TreeSet<>();
        Set<String> shownNames = new HashSet<>();
        for (Method method : face.getDeclaredMethods()) {
            if (!Modifier.isPrivate(method.getModifiers())) {
                shown.add(signature(method));
                shownNames.add(method.getName());
                check(signature(method) + " is public and not static",
                        Modifier.isPublic(method.getModifiers()) && !Modifier.isStatic(method.getModifiers()));
            }
        }
        check("the methods shown are the document's, not " + shown, shown.equals(FACE));
        for (Method method : face.getDeclaredMethods()) {
            if (Modifier.isPrivate(method.getModifiers())) {
                check(signature(method) + " has a name of its own", !shownNames.contains(method.getName()));
                check(signature(method) + " has at most seven parameters", method.getParameterCount() <= 7);
            }
        }
    }

    private static void checkFields(Class<?> face) {
        for (Field field : face.getDeclaredFields()) {
            Class<?> type = field.getType();
            int modifiers = field.getModifiers();
            check(field + " is private", Modifier.isPrivate(modifiers));
            if (Modifier.isStatic(modifiers)) {
                check(field + " is a constant of int or long",
                        Modifier.isFinal(modifiers) && (type == int.class || type == long.class));
            } else {
                Class<?> held = type.isArray() ? type.getComponentType() : type;
                check(field + " is a whole number, a boolean or an array of them",
                        held.isPrimitive() && held != float.class && held != double.class);
            }
        }
    }
}
