import java.lang.reflect.Constructor;
import java.lang.reflect.Field;
import java.lang.reflect.Method;
import java.lang.reflect.Modifier;
import java.util.Arrays;
import java.util.Map;
import java.util.TreeMap;
import java.util.TreeSet;
import java.util.stream.Collectors;

/** The public face, and rules 1, 2 and 5 of LANGUAGE.md as far as the compiled class shows them. */
final class FaceTest {
    private static final String METHODS = "check(int) count(int) covers(int) dearest(int) drop(int) fault() greedy(int) "
        + "least(int) load() mark(int,int) need(int) ofSet(int,int) ofThing(int,int) price(int,int) put(long) "
        + "restore(int) save(int) set(int,int) shared(int) staysUpTo(int) tightCovers() turn(int,int) undo() wipe()";
    private static final Map<String, Integer> CONSTANTS = new TreeMap<>(Map.of("NO_SUCH", -1, "BAD_VALUE", -2,
        "BAD_TEXT", -3, "TOO_MANY", -4, "NOT_POSSIBLE", -5, "NONE", -6, "FREE", 0, "TAKEN", 1, "BARRED", 2));

    private FaceTest() {
    }

    public static void main(String[] args) throws Exception {
        Class<?> face = CoverShares.class;
        Due.same("the class", Modifier.toString(face.getModifiers()), "public final");
        constructor(face);
        methods(face);
        constants(face);
        for (Class<?> inside : face.getDeclaredClasses()) {
            inside(inside);
        }
        Due.end("FaceTest");
    }

    private static void constructor(Class<?> face) {
        Constructor<?>[] all = face.getDeclaredConstructors();
        Due.is("constructors", all.length, 1);
        Due.same("the constructor", all[0].toString(), "public CoverShares()");
    }

    private static void methods(Class<?> face) {
        TreeSet<String> found = new TreeSet<>();
        for (Method method : face.getDeclaredMethods()) {
            if (Modifier.isPublic(method.getModifiers())) {
                Due.same("the type of " + method.getName(), method.getReturnType() + " " + Modifier.toString(
                    method.getModifiers()), "int public");
                found.add(signature(method));
            } else {
                privateName(method);
                Due.is("private is " + method, Modifier.isPrivate(method.getModifiers()) ? 1 : 0, 1);
            }
        }
        Due.same("the methods", String.join(" ", found), METHODS);
    }

    private static String signature(Method method) {
        return method.getName() + Arrays.stream(method.getParameterTypes()).map(Class::getName)
            .collect(Collectors.joining(",", "(", ")"));
    }

    private static void privateName(Method method) {
        Due.is("a public method's name has " + method, METHODS.matches("(.* )?" + method.getName() + "\\(.*") ? 1 : 0, 0);
        Due.is("made by the compiler is " + method, method.isSynthetic() ? 1 : 0, 0);
    }

    private static void constants(Class<?> face) throws IllegalAccessException {
        TreeMap<String, Integer> found = new TreeMap<>();
        for (Field field : face.getDeclaredFields()) {
            if (Modifier.isPublic(field.getModifiers())) {
                Due.same("the type of " + field.getName(), field.getType() + " " + Modifier.toString(
                    field.getModifiers()), "int public static final");
                found.put(field.getName(), field.getInt(null));
            } else {
                Due.is("private is " + field, Modifier.isPrivate(field.getModifiers()) ? 1 : 0, 1);
                staticIsFinal(field);
            }
        }
        Due.same("the constants", found.toString(), CONSTANTS.toString());
    }

    private static void staticIsFinal(Field field) {
        int modifiers = field.getModifiers();
        Due.is("static but not final is " + field, Modifier.isStatic(modifiers) && !Modifier.isFinal(modifiers) ? 1 : 0, 0);
    }

    private static void inside(Class<?> inside) {
        int modifiers = inside.getModifiers();
        Due.is("static is " + inside, Modifier.isStatic(modifiers) ? 1 : 0, 1);
        Due.is("public or protected is " + inside, Modifier.isPublic(modifiers) || Modifier.isProtected(modifiers) ? 1 : 0, 0);
        for (Field field : inside.getDeclaredFields()) {
            staticIsFinal(field);
        }
        for (Method method : inside.getDeclaredMethods()) {
            privateName(method);
        }
    }
}
