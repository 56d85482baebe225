import java.lang.reflect.Constructor;
import java.lang.reflect.Field;
import java.lang.reflect.Method;
import java.lang.reflect.Modifier;
import java.util.Arrays;
import java.util.Set;
import java.util.TreeSet;

/** "The public face": the class, its two constants, its constructor and its nineteen methods, and no more. */
public final class FaceTest {
    private static final Due D = new Due();
    private static final Class<?> C = ActSurgery.class;
    private static final Set<String> CONSTANTS = Set.of("NONE", "BAD");
    private static final String[] METHODS = {"begin(int)", "parents(int,int)", "weight(int,int,int)",
        "hide(int,boolean)", "count(int)", "of(int,int)", "parted(int,int,int)", "parting(int,int)",
        "ways(int,int,int)", "tells(int,int,int,int)", "telling(int,int,int)", "told(int)",
        "odds(int,int,int,int,int,int,int)", "would(int,int,int,int,int,int,int)", "effect(int,int)",
        "swayed(int,int)", "swap()", "keep()", "alike(int)"};

    public static void main(String[] args) throws IllegalAccessException {
        theClass();
        constants();
        constructor();
        methods();
        insides();
        D.end();
    }

    private static void dueTrue(String what, boolean is) {
        D.due(what + " (1 or 0)", is ? 1 : 0, 1);
    }

    private static void theClass() {
        dueTrue("the class is public", Modifier.isPublic(C.getModifiers()));
        dueTrue("the class is final", Modifier.isFinal(C.getModifiers()));
        dueTrue("it extends nothing", C.getSuperclass() == Object.class);
        D.due("interfaces", C.getInterfaces().length, 0);
        dueTrue("it has no package", C.getPackageName().isEmpty());
    }

    private static void constants() throws IllegalAccessException {
        int found = 0;
        for (Field f : C.getDeclaredFields()) {
            int bits = f.getModifiers();
            if (CONSTANTS.contains(f.getName())) {
                found++;
                dueTrue(f + " is a public constant",
                    Modifier.isPublic(bits) && Modifier.isStatic(bits) && Modifier.isFinal(bits));
                dueTrue(f + " is an int", f.getType() == int.class);
                D.due(f.getName(), f.getInt(null), f.getName().equals("NONE") ? -1 : -2);
            } else {
                dueTrue(f + " is private", Modifier.isPrivate(bits));
            }
        }
        D.due("constants", found, 2);
    }

    private static void constructor() {
        Constructor<?>[] made = C.getDeclaredConstructors();
        D.due("constructors", made.length, 1);
        dueTrue("the constructor is public", Modifier.isPublic(made[0].getModifiers()));
        D.due("the constructor's parameters", made[0].getParameterCount(), 0);
        D.due("what the constructor throws", made[0].getExceptionTypes().length, 0);
    }

    private static void methods() {
        TreeSet<String> found = new TreeSet<>();
        for (Method m : C.getDeclaredMethods()) {
            int bits = m.getModifiers();
            if (!Modifier.isPrivate(bits) && !m.isSynthetic()) {
                found.add(signature(m));
                dueTrue(m + " is public", Modifier.isPublic(bits));
                dueTrue(m + " is of the object", !Modifier.isStatic(bits));
                dueTrue(m + " answers an int", m.getReturnType() == int.class);
                D.due("what " + m + " throws", m.getExceptionTypes().length, 0);
            }
        }
        TreeSet<String> due = new TreeSet<>(Arrays.asList(METHODS));
        D.due("methods of the document", due.size(), 19);
        dueTrue("the methods " + found + " are those of the document", found.equals(due));
    }

    private static String signature(Method m) {
        StringBuilder types = new StringBuilder();
        for (Class<?> type : m.getParameterTypes()) {
            types.append(types.length() == 0 ? "" : ",").append(type.getName());
        }
        return m.getName() + "(" + types + ")";
    }

    private static void insides() {
        for (Class<?> inside : C.getDeclaredClasses()) {
            int bits = inside.getModifiers();
            dueTrue(inside + " is static", Modifier.isStatic(bits));
            dueTrue(inside + " is not seen from outside", !Modifier.isPublic(bits) && !Modifier.isProtected(bits));
        }
    }
}
