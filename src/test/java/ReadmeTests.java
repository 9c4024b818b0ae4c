import java.lang.reflect.Method;
import java.nio.charset.StandardCharsets;
import java.nio.file.Files;
import java.nio.file.Path;
import java.util.ArrayList;
import java.util.List;
import java.util.Set;
import java.util.TreeSet;
import java.util.regex.Matcher;
import java.util.regex.Pattern;
import java.util.stream.Stream;

/** What README.md shows as answers are the class's answers, and it names every call and every test. */
public final class ReadmeTests {
    private static final Pattern BLOCK = Pattern.compile("```java\n(.*?)```", Pattern.DOTALL);
    private static final Pattern TEXT = Pattern.compile("String text = \"([^\"]*)\";");
    private static final Pattern CALL = Pattern.compile("x\\.(\\w+)\\(([-0-9, ]*)\\);\\s+// (-?\\d+): .+");
    private static final String NEW = "OvenNoses x = new OvenNoses();";
    /** The three lines that type a text. */
    private static final Set<String> LOOP = Set.of(
            "for (int i = 0; i < text.length(); i++) {", "x.type(text.charAt(i));", "}");

    private static final Set<String> shown = new TreeSet<>(Set.of("type"));

    public static void main(String[] args) throws Exception {
        String readme = Files.readString(Path.of("README.md"), StandardCharsets.UTF_8);
        Matcher blocks = BLOCK.matcher(readme);
        int found = 0;
        while (blocks.find()) {
            found++;
            block(blocks.group(1));
        }
        Check.due("blocks of calls", found, 2);
        everyCallIsShown();
        constantsAreAsShown(readme);
        everyTestIsNamed(readme);
        Check.end();
    }

    /** A line of another form than these would go untested, so there may be none. */
    private static void block(String lines) throws Exception {
        OvenNoses x = new OvenNoses();
        List<String> rest = new ArrayList<>();
        for (String untrimmed : lines.split("\n")) {
            String line = untrimmed.trim();
            Matcher text = TEXT.matcher(line);
            Matcher call = CALL.matcher(line);
            if (text.matches()) {
                Check.type(x, text.group(1));
            } else if (call.matches()) {
                Check.due("README: " + line, answer(x, call.group(1), call.group(2)), Long.parseLong(call.group(3)));
                shown.add(call.group(1));
            } else if (!line.isEmpty() && !line.startsWith("//")) {
                rest.add(line);
            }
        }
        Check.due("README: lines that make the object and type: " + rest, rest.size(), 1 + LOOP.size());
        for (String line : rest) {
            Check.holds("README: '" + line + "' is tested", line.equals(NEW) || LOOP.contains(line));
        }
    }

    private static long answer(OvenNoses x, String name, String numbers) throws Exception {
        String[] told = numbers.isBlank() ? new String[0] : numbers.split(",");
        Class<?>[] types = new Class<?>[told.length];
        Object[] values = new Object[told.length];
        for (int i = 0; i < told.length; i++) {
            types[i] = int.class;
            values[i] = Integer.parseInt(told[i].trim());
        }
        Method method = OvenNoses.class.getMethod(name, types);
        return ((Number) method.invoke(x, values)).longValue();
    }

    private static void everyCallIsShown() {
        for (Method m : OvenNoses.class.getDeclaredMethods()) {
            if (java.lang.reflect.Modifier.isPublic(m.getModifiers())) {
                Check.holds("README shows " + m.getName(), shown.contains(m.getName()));
            }
        }
    }

    private static void constantsAreAsShown(String readme) throws Exception {
        for (String name : List.of("BAD", "STATE", "FULL", "NO", "NONE")) {
            int value = OvenNoses.class.getField(name).getInt(null);
            Check.holds("README tells " + name, readme.contains("`" + name + "` (" + value + ")"));
        }
    }

    private static void everyTestIsNamed(String readme) throws Exception {
        try (Stream<Path> files = Files.list(Path.of("src/test/java"))) {
            for (Path file : (Iterable<Path>) files::iterator) {
                String name = file.getFileName().toString().replace(".java", "");
                Check.holds("README names " + name, !name.endsWith("Tests") || readme.contains("`" + name + "`"));
            }
        }
    }
}
