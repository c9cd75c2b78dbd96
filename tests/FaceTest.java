import java.lang.reflect.Constructor;
import java.lang.reflect.Field;
import java.lang.reflect.Method;
import java.lang.reflect.Modifier;
import java.util.Set;
import java.util.TreeSet;

/** The class shows the document's face, and nothing else (LANGUAGE.md, rules 1 and 5). */
public final class FaceTest {
    private static final Set<String> FACE = Set.of(
        "int letter(int)", "int blank()", "int fault()", "int valley()", "int about(int,int)", "int as(int,int)",
        "int loaf(int,int)", "int eat(int,int)", "int halve(int,int,int)", "int winter()", "int die(int)",
        "int spread(int)", "int say(int,int,boolean)", "int forget()", "int winters(int,int,int)", "int image()",
        "int restore()", "int count(int)", "long digest()");
    private static final Set<String> CONSTANTS = Set.of(
        "NONE=-1", "UNKNOWN=-101", "OUTSIDE=-102", "STATE=-103", "FULL=-104");

    private static int wrong = 0;

    public static void main(String[] args) throws IllegalAccessException {
        Class<?> face = SinEaters.class;
        same("modifiers", Set.of("public final"), Set.of(Modifier.toString(face.getModifiers())));
        same("methods", FACE, methodsShownBy(face));
        same("constants", CONSTANTS, constantsShownBy(face));
        same("constructors", Set.of("public SinEaters()"), constructorsOf(face));
        checkNames(face, face);
        for (Class<?> inside : face.getDeclaredClasses()) {
            checkInside(inside);
            checkNames(face, inside);
        }
        System.out.println(wrong == 0 ? "the face is as due" : wrong + " parts of the face are not as due");
        if (wrong != 0) {
            System.exit(1);
        }
    }

    private static void same(String what, Set<String> want, Set<String> got) {
        if (!new TreeSet<>(want).equals(new TreeSet<>(got))) {
            wrong++;
            System.out.println(what + ": " + new TreeSet<>(got) + ", due are " + new TreeSet<>(want));
        }
    }

    private static Set<String> methodsShownBy(Class<?> face) {
        Set<String> shown = new TreeSet<>();
        for (Method method : face.getDeclaredMethods()) {
            if (!Modifier.isPrivate(method.getModifiers())) {
                shown.add(method.toGenericString().replace("public ", "").replace("SinEaters.", ""));
            }
        }
        return shown;
    }

    private static Set<String> constantsShownBy(Class<?> face) throws IllegalAccessException {
        Set<String> shown = new TreeSet<>();
        for (Field field : face.getDeclaredFields()) {
            int modifiers = field.getModifiers();
            if (!Modifier.isPrivate(modifiers)) {
                boolean constant = Modifier.isPublic(modifiers) && Modifier.isStatic(modifiers);
                shown.add(field.getName() + "=" + (constant ? field.getInt(null) : "no constant"));
            }
            if (Modifier.isStatic(modifiers) && !Modifier.isFinal(modifiers)) {
                shown.add(field.getName() + " is static and not final");
            }
        }
        return shown;
    }

    private static Set<String> constructorsOf(Class<?> face) {
        Set<String> shown = new TreeSet<>();
        for (Constructor<?> one : face.getDeclaredConstructors()) {
            shown.add(one.toGenericString());
        }
        return shown;
    }

    /** Classes inside are static and not public. */
    private static void checkInside(Class<?> inside) {
        int modifiers = inside.getModifiers();
        if (!Modifier.isStatic(modifiers) || Modifier.isPublic(modifiers) || Modifier.isProtected(modifiers)) {
            wrong++;
            System.out.println(inside + " is not as due");
        }
    }

    /** No private method bears the name of a public one. */
    private static void checkNames(Class<?> face, Class<?> where) {
        for (Method method : where.getDeclaredMethods()) {
            for (Method shown : face.getDeclaredMethods()) {
                boolean own = shown.equals(method) || !Modifier.isPublic(shown.getModifiers());
                if (!own && shown.getName().equals(method.getName())) {
                    wrong++;
                    System.out.println(method + " bears the name of a public one");
                }
            }
        }
    }
}
