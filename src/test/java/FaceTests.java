import java.lang.reflect.Constructor;
import java.lang.reflect.Field;
import java.lang.reflect.Method;
import java.lang.reflect.Modifier;
import java.nio.charset.StandardCharsets;
import java.nio.file.Files;
import java.nio.file.Path;
import java.util.ArrayList;
import java.util.List;
import java.util.Set;
import java.util.TreeSet;
import java.util.regex.Matcher;
import java.util.regex.Pattern;

/** The public face, and those rules of LANGUAGE.md that the source itself shows. */
public final class FaceTests {
    private static final Path SOURCE = Path.of("src/main/java/OvenNoses.java");

    private static final String[] METHODS = {
        "int type(int)", "int clear()", "int quarter()", "int oven(int, int)", "int dough(int, int)",
        "int smell(int, int)", "int follows(int)", "int puts(int, int)", "int minutes(int)",
        "int shuts(int, int)", "int undo()", "int now(int)", "int when(int)", "int moved(int)",
        "int order(int, int, int)", "int fire(int, int)", "int odds(int, int, int, int)",
        "int led(int, int)", "int forget()", "int vanilla()", "int mark(int, int)", "int keep(int)",
        "int back(int)", "int count(int)", "long trace()",
    };

    public static void main(String[] args) throws Exception {
        members();
        constants();
        source(Files.readString(SOURCE, StandardCharsets.ISO_8859_1));
        Check.end();
    }

    private static void members() {
        Class<?> face = OvenNoses.class;
        Check.holds("the class is public and final",
                Modifier.isPublic(face.getModifiers()) && Modifier.isFinal(face.getModifiers()));
        Check.due("constructors", face.getDeclaredConstructors().length, 1);
        for (Constructor<?> c : face.getDeclaredConstructors()) {
            Check.holds("public OvenNoses()", Modifier.isPublic(c.getModifiers()) && c.getParameterCount() == 0);
        }
        Set<String> found = new TreeSet<>();
        Set<String> publicNames = new TreeSet<>();
        for (Method m : face.getDeclaredMethods()) {
            if (Modifier.isPublic(m.getModifiers())) {
                found.add(signature(m));
                publicNames.add(m.getName());
            }
        }
        Check.holds("the public methods are " + found, found.equals(new TreeSet<>(List.of(METHODS))));
        for (Method m : face.getDeclaredMethods()) {
            boolean isPublic = Modifier.isPublic(m.getModifiers());
            Check.holds(m + " is public or private", isPublic || Modifier.isPrivate(m.getModifiers()));
            Check.holds(m + " has a name of its own", isPublic || !publicNames.contains(m.getName()));
        }
        Check.holds("some twelve classes", face.getDeclaredClasses().length < 12);
        Check.holds("some twenty fields", ownFields(face) <= 20);
        for (Class<?> inside : face.getDeclaredClasses()) {
            int open = Modifier.PUBLIC | Modifier.PROTECTED;
            Check.holds(inside + " is static", Modifier.isStatic(inside.getModifiers()));
            Check.holds(inside + " is not open", (inside.getModifiers() & open) == 0);
            Check.holds(inside + ": some twenty fields", ownFields(inside) <= 20);
            for (Field f : inside.getDeclaredFields()) {
                Check.holds(f + " is final, if static",
                        !Modifier.isStatic(f.getModifiers()) || Modifier.isFinal(f.getModifiers()));
            }
            for (Method m : inside.getDeclaredMethods()) {
                Check.holds(m + " has a name of its own", !publicNames.contains(m.getName()));
                Check.holds(m + " takes seven at most", m.getParameterCount() <= 7);
            }
        }
    }

    private static int ownFields(Class<?> of) {
        int fields = 0;
        for (Field f : of.getDeclaredFields()) {
            fields += Modifier.isStatic(f.getModifiers()) ? 0 : 1;
        }
        return fields;
    }

    private static String signature(Method m) {
        List<String> parameters = new ArrayList<>();
        for (Class<?> p : m.getParameterTypes()) {
            parameters.add(p.getName());
        }
        return m.getReturnType().getName() + " " + m.getName() + "(" + String.join(", ", parameters) + ")";
    }

    private static void constants() {
        Check.due("BAD", OvenNoses.BAD, -1);
        Check.due("STATE", OvenNoses.STATE, -2);
        Check.due("FULL", OvenNoses.FULL, -3);
        Check.due("NONE", OvenNoses.NONE, -9);
        Check.due("NO", OvenNoses.NO, -1000000);
        Set<String> open = new TreeSet<>();
        for (Field f : OvenNoses.class.getDeclaredFields()) {
            if (!Modifier.isPrivate(f.getModifiers())) {
                int constant = Modifier.PUBLIC | Modifier.STATIC | Modifier.FINAL;
                Check.holds(f + " is a public constant", f.getModifiers() == constant && f.getType() == int.class);
                open.add(f.getName());
            }
            Check.holds(f + " is final, if static",
                    !Modifier.isStatic(f.getModifiers()) || Modifier.isFinal(f.getModifiers()));
        }
        Check.holds("the open fields are " + open, open.equals(Set.of("BAD", "STATE", "FULL", "NONE", "NO")));
    }

    private static void source(String text) {
        String code = text.replaceAll("(?s)/\\*.*?\\*/", " ").replaceAll("//[^\n]*", " ");
        Pattern refused = Pattern.compile(
                "\\b(throw|throws|try|catch|synchronized|assert|import|package|native|volatile|transient|"
                + "Exception|Error|System\\.(?!arraycopy)\\w+|Thread|Random|hashCode|toString|\\w+Exact)\\b|->|::|@");
        Matcher m = refused.matcher(code);
        while (m.find()) {
            Check.holds("LANGUAGE.md refuses '" + m.group() + "'", false);
        }
        for (int i = 0; i < text.length(); i++) {
            Check.holds("sign at " + i + " is ASCII", text.charAt(i) < 128);
        }
        bodies(code.split("\n"));
    }

    /** Methods stay short, and objects are made in constructors alone: all calls of a run share one room. */
    private static void bodies(String[] lines) {
        Pattern header = Pattern.compile("( +)((public|private|static|final) )*(\\w+(\\[\\])? )?(\\w+)\\([^()]*\\) \\{ *");
        int made = 0;
        for (int i = 0; i < lines.length; i++) {
            Matcher m = header.matcher(lines[i]);
            if (!m.matches() || Set.of("if", "for", "while", "switch").contains(m.group(6))) {
                continue;
            }
            int end = i;
            while (end < lines.length && !lines[end].equals(m.group(1) + "}")) {
                boolean makes = lines[end].matches(".*\\bnew\\b.*");
                Check.holds(m.group(6) + " makes no object", !makes || m.group(4) == null);
                made += makes ? 1 : 0;
                end++;
            }
            Check.holds(m.group(6) + " has some sixty lines at most", end - i <= 60);
        }
        int inAll = 0;
        for (String line : lines) {
            inAll += line.matches(".*\\bnew\\b.*") ? 1 : 0;
        }
        Check.due("objects made in bodies that were seen", made, inAll);
    }
}
