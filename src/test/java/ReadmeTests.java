import java.io.IOException;
import java.lang.reflect.Method;
import java.lang.reflect.Modifier;
import java.nio.file.Files;
import java.nio.file.Path;
import java.util.Map;
import java.util.Set;
import java.util.TreeSet;
import java.util.regex.Matcher;
import java.util.regex.Pattern;

/** The calls that README.md shows answer what it says beside them, and it shows every method. */
public final class ReadmeTests {
    private static final Path README = Path.of("README.md");
    private static final Pattern SHOWN = Pattern.compile("(?m)^index\\.(\\w+)\\((.*?)\\); *// (\\w+|-\\d+)\\b");
    private static final Pattern TOLD = Pattern.compile("(?m)^\\| `(\\w+)\\(");
    private static final Map<String, Long> NAMED = Map.of(
            "BAD", -1L, "FULL", -2L, "NONE", -3L, "true", 1L, "false", 0L);

    private static int wrong = 0;

    private static void report(String text) {
        wrong++;
        System.out.println(text);
    }

    private static long number(String text) {
        return NAMED.containsKey(text) ? NAMED.get(text) : Long.decode(text);
    }

    private static Object[] arguments(String text) {
        if (text.isEmpty()) {
            return new Object[0];
        }
        String[] parts = text.split(", ");
        Object[] numbers = new Object[parts.length];
        for (int i = 0; i < parts.length; i++) {
            numbers[i] = (int) number(parts[i]);
        }
        return numbers;
    }

    private static long answer(ArtIndex index, Method method, Object[] arguments) throws ReflectiveOperationException {
        Object got = method.invoke(index, arguments);
        return got instanceof Boolean ? ((Boolean) got ? 1 : 0) : ((Number) got).longValue();
    }

    private static Set<String> publicMethods() {
        Set<String> names = new TreeSet<>();
        for (Method m : ArtIndex.class.getDeclaredMethods()) {
            if (Modifier.isPublic(m.getModifiers())) {
                names.add(m.getName());
            }
        }
        return names;
    }

    private static Method methodOf(String name) {
        for (Method m : ArtIndex.class.getDeclaredMethods()) {
            if (m.getName().equals(name)) {
                return m;
            }
        }
        throw new IllegalStateException("README.md shows " + name + ", which the class does not have");
    }

    private static Set<String> shown(String text) throws ReflectiveOperationException {
        ArtIndex index = new ArtIndex();
        Set<String> names = new TreeSet<>();
        Matcher m = SHOWN.matcher(text);
        while (m.find()) {
            names.add(m.group(1));
            long got = answer(index, methodOf(m.group(1)), arguments(m.group(2)));
            if (got != number(m.group(3))) {
                report(m.group() + " is shown, but the answer is " + got);
            }
        }
        return names;
    }

    private static Set<String> told(String text) {
        Set<String> names = new TreeSet<>();
        Matcher m = TOLD.matcher(text);
        while (m.find()) {
            names.add(m.group(1));
        }
        return names;
    }

    public static void main(String[] args) throws IOException, ReflectiveOperationException {
        String text = Files.readString(README);
        if (!shown(text).equals(publicMethods())) {
            report("the calls shown are of " + shown(text) + ", not of every method");
        }
        if (!told(text).equals(publicMethods())) {
            report("the table tells " + told(text) + ", not every method");
        }
        long lines = text.lines().filter(line -> line.startsWith("index.")).count();
        if (lines != SHOWN.matcher(text).results().count()) {
            report("a call is shown without its answer");
        }
        System.out.println(wrong == 0 ? "README.md tells the truth" : wrong + " faults in README.md");
        if (wrong != 0) {
            System.exit(1);
        }
    }
}
