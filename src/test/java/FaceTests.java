import java.io.IOException;
import java.lang.reflect.Constructor;
import java.lang.reflect.Field;
import java.lang.reflect.Method;
import java.lang.reflect.Modifier;
import java.nio.file.Files;
import java.nio.file.Path;
import java.util.Arrays;
import java.util.List;
import java.util.Set;
import java.util.TreeSet;
import java.util.regex.Matcher;
import java.util.regex.Pattern;

/** The public face of the document, and the rules of LANGUAGE.md that can be read off the class. */
public final class FaceTests {
    private static final Path SOURCE = Path.of("src/main/java/ArtIndex.java");
    private static final int MOST_PARAMETERS = 7;
    private static final int MOST_LINES = 60;
    private static final int MOST_FIELDS = 40;

    private static final Set<String> FACE = new TreeSet<>(List.of(
            "public static final int BAD", "public static final int FULL", "public static final int NONE",
            "public ArtIndex()", "public int put(int, int)", "public int remove(int)",
            "public int removeRange(int, int)", "public boolean contains(int)", "public int valueOf(int)",
            "public int size()", "public int above(int)", "public int below(int)", "public int atRank(int)",
            "public int countRange(int, int)", "public int sharedDigits(int)", "public long sumUnder(int, int)"));

    private static final Set<Class<?>> NUMBERS = Set.of(
            int.class, long.class, short.class, byte.class, char.class, boolean.class);

    private static int wrong = 0;

    private static void must(boolean holds, String what) {
        if (!holds) {
            wrong++;
            System.out.println("not so: " + what);
        }
    }

    private static String typesOf(Class<?>[] types) {
        return Arrays.toString(Arrays.stream(types).map(Class::getTypeName).toArray())
                .replace('[', '(').replace(']', ')');
    }

    private static void face() {
        Class<?> c = ArtIndex.class;
        Set<String> seen = new TreeSet<>();
        for (Field f : c.getDeclaredFields()) {
            if (!Modifier.isPrivate(f.getModifiers())) {
                seen.add(Modifier.toString(f.getModifiers()) + " " + f.getType().getTypeName() + " " + f.getName());
            }
        }
        for (Constructor<?> k : c.getDeclaredConstructors()) {
            if (!Modifier.isPrivate(k.getModifiers())) {
                seen.add(Modifier.toString(k.getModifiers()) + " ArtIndex" + typesOf(k.getParameterTypes()));
            }
        }
        for (Method m : c.getDeclaredMethods()) {
            if (!Modifier.isPrivate(m.getModifiers())) {
                seen.add(Modifier.toString(m.getModifiers()) + " " + m.getReturnType().getTypeName() + " "
                        + m.getName() + typesOf(m.getParameterTypes()));
            }
        }
        must(seen.equals(FACE), "the face is the document's; it is " + seen);
        must(c.getModifiers() == (Modifier.PUBLIC | Modifier.FINAL), "the class is public and final");
        must(c.getSuperclass() == Object.class && c.getInterfaces().length == 0, "the class extends nothing");
        must(c.getDeclaredClasses().length == 0, "there is no nested class (rule 1)");
    }

    private static boolean isAllowed(Class<?> type) {
        return NUMBERS.contains(type) || type.isArray() && NUMBERS.contains(type.getComponentType());
    }

    private static void members() {
        int fields = 0;
        for (Field f : ArtIndex.class.getDeclaredFields()) {
            must(isAllowed(f.getType()), "field " + f.getName() + " has an allowed type (rule 2)");
            if (Modifier.isStatic(f.getModifiers())) {
                must(Modifier.isFinal(f.getModifiers()) && (f.getType() == int.class || f.getType() == long.class),
                        "static field " + f.getName() + " is an int or long constant (rule 5)");
            } else {
                fields++;
            }
        }
        must(fields <= MOST_FIELDS, "there are at most some forty fields (rule 10)");
        Set<String> publicNames = new TreeSet<>();
        for (Method m : ArtIndex.class.getDeclaredMethods()) {
            if (Modifier.isPublic(m.getModifiers())) {
                publicNames.add(m.getName());
            }
        }
        for (Method m : ArtIndex.class.getDeclaredMethods()) {
            boolean isPrivate = Modifier.isPrivate(m.getModifiers());
            must(!isPrivate || !publicNames.contains(m.getName()), m.getName() + " is no public name (rule 1)");
            must(m.getParameterCount() <= MOST_PARAMETERS, m.getName() + " has few parameters (rule 10)");
            must(!m.getReturnType().isArray(), m.getName() + " answers no array (rule 4)");
        }
    }

    private static String withoutComments(String text) {
        return text.replaceAll("(?s)/\\*.*?\\*/", "").replaceAll("//[^\\n]*", "");
    }

    private static void words(String code) {
        String banned = "import|package|float|double|String|Math|Integer|Long|System|Arrays|Object|null|throw|throws"
                + "|try|catch|finally|synchronized|assert|instanceof|class\\s+(?!ArtIndex\\b)|interface|enum|record"
                + "|getClass|hashCode|equals|toString|clone|notify|notifyAll|wait";
        Matcher m = Pattern.compile("\\b(" + banned + ")\\b|->|::|\"").matcher(code);
        while (m.find()) {
            must(false, "'" + m.group() + "' is not used (rules 1, 2, 3, 4, 6)");
        }
        for (String line : code.split("\n")) {
            boolean isField = line.matches("    private final \\w+\\[] \\w+ = new \\w+\\[[A-Z_]+];");
            must(!line.contains("new ") || isField, "arrays are made in fields' initialisers (rule 4): " + line.trim());
        }
        must(!Pattern.compile("\\b(while|do)\\b").matcher(code).find(), "each loop has a counter (rule 8)");
        loops(code);
        // A control word before a parenthesis is no call.
        String calls = code.replaceAll("\\b(if|for|switch|return)\\b", ";");
        must(!Pattern.compile("\\w\\((?:[^()]|\\([^()]*\\))*?\\w\\(").matcher(callsOnly(calls)).find(),
                "no call stands in another's arguments (rule 10)");
    }

    /** Each loop counts up to a bound, and no line but its head changes the counter. */
    private static void loops(String code) {
        Matcher loop = Pattern.compile("(?s)\\n( *)for \\((.*?)\\) \\{\\n(.*?)\\n\\1\\}").matcher(code);
        int found = 0;
        for (int from = 0; loop.find(from); from = loop.end(2)) {
            found++;
            Matcher head = Pattern.compile("int (\\w+) = \\w+; \\1 <=? \\w+( && .*)?; \\1\\+\\+").matcher(loop.group(2));
            boolean counts = head.matches();
            must(counts, "a loop counts up to a bound (rule 8): " + loop.group(2));
            must(!counts || !Pattern.compile("\\b" + head.group(1) + "(\\+\\+|--| [-+*/%&|^<>]*= )")
                    .matcher(loop.group(3)).find(), "a counter is left alone (rule 8): " + loop.group(2));
        }
        must(found == code.split("\\bfor\\b", -1).length - 1, "every loop is found in the source");
    }

    /** The code without the headers of its methods, which look like calls. */
    private static String callsOnly(String code) {
        StringBuilder left = new StringBuilder();
        for (String line : code.split("\n")) {
            if (!line.matches("    (public|private) .*")) {
                left.append(line).append(";\n");
            }
        }
        return left.toString();
    }

    private static void methodLengths(String text) {
        Matcher m = Pattern.compile("(?s)\\n    (?:public|private) [^;={]*\\{\\n(.*?)\\n    \\}\\n").matcher(text);
        int methods = 0;
        while (m.find()) {
            methods++;
            must(m.group(1).split("\n").length <= MOST_LINES, "methods stay short (rule 10)");
        }
        must(methods > 12, "the methods are found in the source");
    }

    private static Set<String> calledIn(String body, Set<String> names) {
        Set<String> called = new TreeSet<>();
        Matcher m = Pattern.compile("\\b(\\w+)\\(").matcher(body);
        while (m.find()) {
            if (names.contains(m.group(1))) {
                called.add(m.group(1));
            }
        }
        return called;
    }

    private static int depthOfCalls(String name, String code, Set<String> names, int above) {
        if (above > names.size()) {
            return above;
        }
        Matcher m = Pattern.compile("(?s)\\n    (?:public|private) [\\w ]*\\b" + name
                + "\\([^)]*\\) \\{\\n(.*?)\\n    \\}\\n").matcher(code);
        if (!m.find()) {
            must(false, name + " is found in the source");
            return above;
        }
        int deepest = above + 1;
        for (String called : calledIn(m.group(1), names)) {
            deepest = Math.max(deepest, depthOfCalls(called, code, names, above + 1));
        }
        return deepest;
    }

    private static void callDepths(String code) {
        Set<String> names = new TreeSet<>();
        for (Method m : ArtIndex.class.getDeclaredMethods()) {
            names.add(m.getName());
        }
        for (String name : names) {
            int deep = depthOfCalls(name, code, names, 0);
            must(deep <= 6, "calls go at most six deep and never in a ring (rules 8, 10): " + name + " goes " + deep);
        }
    }

    public static void main(String[] args) throws IOException {
        face();
        members();
        String code = withoutComments(Files.readString(SOURCE));
        words(code);
        methodLengths(code);
        callDepths(code);
        System.out.println(wrong == 0 ? "the face and the rules are kept" : wrong + " rules are not kept");
        if (wrong != 0) {
            System.exit(1);
        }
    }
}
