import java.io.IOException;
import java.lang.reflect.Constructor;
import java.lang.reflect.Field;
import java.lang.reflect.Method;
import java.lang.reflect.Modifier;
import java.nio.file.Files;
import java.nio.file.Path;
import java.util.ArrayList;
import java.util.Arrays;
import java.util.List;
import java.util.TreeSet;
import java.util.regex.Matcher;
import java.util.regex.Pattern;

/** The face of the document, and those rules of LANGUAGE.md that a look at the text and the class can tell. */
public final class LanguageTest {
    private static final Due D = new Due();
    private static final String[] FACE = {"begin(int)", "parents(int,int)", "weight(int,int,int)", "hide(int,boolean)",
        "count(int)", "of(int,int)", "parted(int,int,int)", "parting(int,int)", "ways(int,int,int)",
        "tells(int,int,int,int)", "telling(int,int,int)", "told(int)", "odds(int,int,int,int,int,int,int)",
        "would(int,int,int,int,int,int,int)", "effect(int,int)", "swayed(int,int)", "swap()", "keep()", "alike(int)"};

    public static void main(String[] args) throws IOException {
        face();
        text(Files.readString(Path.of("src/main/java/ActSurgery.java")));
        D.end();
    }

    private static void face() {
        Class<?> c = ActSurgery.class;
        D.due("public and final", Modifier.isPublic(c.getModifiers()) && Modifier.isFinal(c.getModifiers()) ? 1 : 0, 1);
        TreeSet<String> methods = new TreeSet<>();
        List<String> names = new ArrayList<>();
        for (Method m : c.getDeclaredMethods()) {
            if (!Modifier.isPrivate(m.getModifiers()) && !m.isSynthetic()) {
                methods.add(signature(m));
                names.add(m.getName());
                D.due(m + " is public and answers an int",
                    Modifier.isPublic(m.getModifiers()) && m.getReturnType() == int.class ? 1 : 0, 1);
            }
        }
        D.due("methods " + methods, methods.equals(new TreeSet<>(Arrays.asList(FACE))) ? 1 : 0, 1);
        for (Method m : c.getDeclaredMethods()) {
            if (Modifier.isPrivate(m.getModifiers())) {
                D.due("private " + m.getName(), names.contains(m.getName()) ? 1 : 0, 0);
            }
        }
        for (Field f : c.getDeclaredFields()) {
            boolean constant = f.getName().equals("NONE") || f.getName().equals("BAD");
            int bits = f.getModifiers();
            D.due("field " + f.getName() + " is private", Modifier.isPrivate(bits) ? 0 : 1, constant ? 1 : 0);
            D.due("static " + f.getName() + " is final", Modifier.isStatic(bits) && !Modifier.isFinal(bits) ? 1 : 0, 0);
        }
        Constructor<?>[] made = c.getDeclaredConstructors();
        D.due("constructors", made.length, 1);
        D.due("its parameters", made[0].getParameterCount(), 0);
        for (Class<?> inside : c.getDeclaredClasses()) {
            D.due(inside + " is static", Modifier.isStatic(inside.getModifiers()) ? 1 : 0, 1);
        }
    }

    private static String signature(Method m) {
        List<String> types = new ArrayList<>();
        for (Class<?> type : m.getParameterTypes()) {
            types.add(type.getName());
        }
        return m.getName() + "(" + String.join(",", types) + ")";
    }

    private static void text(String source) {
        String code = source.replaceAll("(?s)/\\*.*?\\*/", " ").replaceAll("//[^\n]*", " ");
        Matcher m = Pattern.compile("\\b(package|import|throw|throws|try|catch|finally|synchronized|assert|native|"
            + "volatile|transient|protected|Object|Exception|System\\.(?!arraycopy)\\w+|\\w+Exact)\\b|->|::")
            .matcher(code);
        while (m.find()) {
            D.due("'" + m.group() + "' in the program", 1, 0);
        }
        // All calls of a run live in one room: what is made is made with the object.
        Matcher made = Pattern.compile("(?m)^(.*)\\bnew\\b").matcher(code);
        int news = 0;
        while (made.find()) {
            news++;
            boolean atStart = made.group(1).matches("\\s*(private )?(final \\S+ )?\\w+ = ");
            D.due("'" + made.group().trim() + "' is made with the object", atStart ? 1 : 0, 1);
        }
        D.due("objects and arrays of one object are few", news <= 20 ? 1 : 0, 1);
    }
}
