import java.lang.reflect.Constructor;
import java.lang.reflect.Field;
import java.lang.reflect.Method;
import java.lang.reflect.Modifier;
import java.nio.charset.StandardCharsets;
import java.nio.file.Files;
import java.nio.file.Path;
import java.util.ArrayList;
import java.util.List;
import java.util.Set;
import java.util.TreeSet;
import java.util.regex.Matcher;
import java.util.regex.Pattern;

/** The public face, and those rules of LANGUAGE.md that the source itself shows. */
public final class FaceTests {
    private static final Path SOURCE = Path.of("src/main/java/OvenNoses.java");

    private static final String[] METHODS = {
        "int type(int)", "int clear()", "int quarter()", "int oven(int, int)", "int dough(int, int)",
        "int smell(int, int)", "int follows(int)", "int puts(int, int)", "int minutes(int)",
        "int shuts(int, int)", "int undo()", "int now(int)", "int when(int)", "int moved(int)",
        "int order(int, int, int)", "int fire(int, int)", "int odds(int, int, int, int)",
        "int led(int, int)", "int forget()", "int vanilla()", "int mark(int, int)", "int keep(int)",
        "int back(int)", "int count(int)", "long trace()",
    };

    public static void main(String[] args) throws Exception {
        members();
        constants();
        source(Files.readString(SOURCE, StandardCharsets.ISO_8859_1));
        Check.end();
    }

    private static void members() {
        Class<?> face = OvenNoses.class;
        Check.holds("the class is public and final",
                Modifier.isPublic(face.getModifiers()) && Modifier.isFinal(face.getModifiers()));
        Check.due("constructors", face.getDeclaredConstructors().length, 1);
        for (Constructor<?> c : face.getDeclaredConstructors()) {
            Check.holds("public OvenNoses()", Modifier.isPublic(c.getModifiers()) && c.getParameterCount() == 0);
        }
        Set<String> found = new TreeSet<>();
        Set<String> publicNames = new TreeSet<>();
        for (Method m : face.getDeclaredMethods()) {
            if (Modifier.isPublic(m.getModifiers())) {
                found.add(signature(m));
                publicNames.add(m.getName());
            }
        }
        Check.holds("the public methods are " + found, found.equals(new TreeSet<>(List.of(METHODS))));
        for (Method m : face.getDeclaredMethods()) {
            boolean isPublic = Modifier.isPublic(m.getModifiers());
            Check.holds(m + " is public or private", isPublic || Modifier.isPrivate(m.getModifiers()));
            Check.holds(m + " has a name of its own", isPublic || !publicNames.contains(m.getName()));
        }
        for (Class<?> inside : face.getDeclaredClasses()) {
            Check.holds(inside + " is static", Modifier.isStatic(inside.getModifiers()));
            for (Method m : inside.getDeclaredMethods()) {
                Check.holds(m + " has a name of its own", !publicNames.contains(m.getName()));
                Check.holds(m + " takes seven at most", m.getParameterCount() <= 7);
            }
        }
    }

    private static String signature(Method m) {
        List<String> parameters = new ArrayList<>();
        for (Class<?> p : m.getParameterTypes()) {
            parameters.add(p.getName());
        }
        return m.getReturnType().getName() + " " + m.getName() + "(" + String.join(", ", parameters) + ")";
    }

    private static void constants() {
        Check.due("BAD", OvenNoses.BAD, -1);
        Check.due("STATE", OvenNoses.STATE, -2);
        Check.due("FULL", OvenNoses.FULL, -3);
        Check.due("NONE", OvenNoses.NONE, -9);
        Check.due("NO", OvenNoses.NO, -1000000);
        Set<String> open = new TreeSet<>();
        for (Field f : OvenNoses.class.getDeclaredFields()) {
            if (!Modifier.isPrivate(f.getModifiers())) {
                open.add(f.getName());
            }
            Check.holds(f + " is final, if static",
                    !Modifier.isStatic(f.getModifiers()) || Modifier.isFinal(f.getModifiers()));
        }
        Check.holds("the open fields are " + open, open.equals(Set.of("BAD", "STATE", "FULL", "NONE", "NO")));
    }

    private static void source(String text) {
        String code = text.replaceAll("(?s)/\\*.*?\\*/", " ").replaceAll("//[^\n]*", " ");
        Pattern refused = Pattern.compile(
                "\\b(throw|throws|try|catch|synchronized|assert|import|package|native|volatile|transient|"
                + "Exception|Error|System\\.(?!arraycopy)\\w+|Thread|Random|hashCode|toString|\\w+Exact)\\b|->|::|@");
        Matcher m = refused.matcher(code);
        while (m.find()) {
            Check.holds("LANGUAGE.md refuses '" + m.group() + "'", false);
        }
        for (int i = 0; i < text.length(); i++) {
            Check.holds("sign at " + i + " is ASCII", text.charAt(i) < 128);
        }
    }
}
