import java.io.IOException;
import java.lang.reflect.Constructor;
import java.lang.reflect.Field;
import java.lang.reflect.Method;
import java.lang.reflect.Modifier;
import java.nio.file.Files;
import java.nio.file.Path;
import java.util.ArrayList;
import java.util.Arrays;
import java.util.List;
import java.util.Set;
import java.util.TreeSet;
import java.util.regex.Matcher;
import java.util.regex.Pattern;

/** Those rules of LANGUAGE.md that can be looked at in the class's text, or in the class itself. */
public final class LanguageTest {
    private static final Path SOURCE = Path.of("src/main/java/BarCodes.java");
    private static final Set<String> CALLED = Set.of(
            "Arrays.copyOf", "Arrays.copyOfRange", "Arrays.fill", "System.arraycopy", "List.of");
    private static final Set<String> COUNTED = Set.of("Integer", "Long", "Math");
    private static final Set<String> THROWN = Set.of(
            "IllegalStateException", "IllegalArgumentException", "IndexOutOfBoundsException",
            "ArithmeticException", "UnsupportedOperationException", "NoSuchElementException", "RuntimeException",
            // The document's face names it for bar.
            "ArrayIndexOutOfBoundsException");
    private static final Set<String> IMPORTED = Set.of("Arrays", "ArrayList", "List", "Iterator");
    private static final Set<String> NO_WORDS = Set.of(
            "package", "finally", "synchronized", "assert", "catch", "try", "hashCode", "toString", "getMessage",
            "native", "volatile", "transient", "strictfp");
    private static final Set<Class<?>> STATIC_TYPES = Set.of(
            int.class, long.class, boolean.class, char.class, String.class,
            int[].class, long[].class, char[].class, byte[].class);
    private static final int MOST_LINES = 60;
    private static final int MOST_PARAMETERS = 7;
    private static final int MOST_CLASSES = 12;
    private static final int MOST_FIELDS = 20;

    public static void main(String[] args) throws IOException {
        String written = Files.readString(SOURCE);
        String code = withoutTexts(written);
        imports(code);
        words(code);
        library(code);
        thrown(code);
        methods(code);
        classes();
        Due.end();
    }

    /** Comments are left out, and the texts between quotes made empty. */
    private static String withoutTexts(String written) {
        return written.replaceAll("(?s)/\\*.*?\\*/", " ").replaceAll("//[^\n]*", " ")
                .replaceAll("\"[^\"\n]*\"", "\"\"");
    }

    private static void imports(String code) {
        Matcher imported = Pattern.compile("import\\s+([^;]*);").matcher(code);
        while (imported.find()) {
            String name = imported.group(1);
            boolean listed = name.startsWith("java.util.") && IMPORTED.contains(name.substring(10));
            Due.holds("rule 4: import " + name, listed);
        }
    }

    private static void words(String code) {
        Set<String> found = new TreeSet<>(List.of(code.split("\\W+")));
        found.retainAll(NO_WORDS);
        Due.same("rules 2 and 6: words that are not used", String.join(" ", found), "");
        Due.holds("rule 2: no lambda, no method reference", !code.contains("->") && !code.contains("::"));
        Due.holds("rule 5: no static initialiser", !Pattern.compile("static\\s*\\{").matcher(code).find());
        Due.holds("rule 10: no texts joined by +", !code.matches("(?s).*(\"\\s*\\+|\\+\\s*\").*"));
    }

    /** The library's constants are not among what rule 4 lists: of Integer, Long and Math functions alone are. */
    private static void library(String code) {
        Set<String> own = ownNames();
        Matcher used = Pattern.compile("\\b([A-Z]\\w*)\\.(\\w+)(\\s*\\()?").matcher(code);
        while (used.find()) {
            String name = used.group(1);
            String whole = name + "." + used.group(2);
            boolean function = used.group(3) != null;
            boolean counts = COUNTED.contains(name) && function && !whole.endsWith("Exact");
            Due.holds("rule 4: " + whole, own.contains(name) || counts || CALLED.contains(whole));
        }
    }

    private static Set<String> ownNames() {
        Set<String> names = new TreeSet<>();
        for (Class<?> each : allClasses()) {
            names.add(each.getSimpleName());
        }
        return names;
    }

    private static void thrown(String code) {
        Matcher throwing = Pattern.compile("\\bthrow\\b\\s*([^;]*);").matcher(code);
        while (throwing.find()) {
            Matcher made = Pattern.compile("new (\\w+)\\((\"\")?\\)").matcher(throwing.group(1));
            Due.holds("rule 6: throw " + throwing.group(1), made.matches() && THROWN.contains(made.group(1)));
        }
    }

    /** A method ends at the first brace that is as far to the right as its head is. */
    private static void methods(String code) {
        String[] lines = code.split("\n");
        for (int first = 0; first < lines.length; first++) {
            if (isHead(lines[first])) {
                String end = lines[first].replaceAll("\\S.*", "") + "}";
                int last = Arrays.asList(lines).subList(first, lines.length).indexOf(end) + first;
                String head = lines[first].trim();
                Due.holds("rule 11: the length of " + head, last > first && last - first < MOST_LINES);
                String body = String.join("\n", Arrays.copyOfRange(lines, first, last));
                boolean constructor = head.matches("(public |private )?[A-Z]\\w*\\(.*");
                Due.holds("rule 6: no throw in " + head, !constructor || !body.contains("throw "));
            }
        }
    }

    private static boolean isHead(String line) {
        return line.matches("( {4}| {8})[\\w\\[\\] ]+\\(.*\\{") && !line.matches("\\s*(if|for|while|switch)\\b.*");
    }

    private static void classes() {
        List<Class<?>> all = allClasses();
        Due.holds("rule 11: the number of classes", all.size() <= MOST_CLASSES);
        for (Class<?> each : all) {
            if (each != BarCodes.class) {
                int kind = each.getModifiers();
                boolean hidden = !Modifier.isPublic(kind) && !Modifier.isProtected(kind);
                Due.holds("rule 1: " + each.getSimpleName(), hidden && Modifier.isStatic(kind));
            }
            fields(each);
            parameters(each);
        }
        names();
    }

    private static List<Class<?>> allClasses() {
        List<Class<?>> all = new ArrayList<>(List.of(BarCodes.class));
        for (int k = 0; k < all.size(); k++) {
            all.addAll(List.of(all.get(k).getDeclaredClasses()));
        }
        return all;
    }

    private static void fields(Class<?> each) {
        int ofObjects = 0;
        for (Field field : each.getDeclaredFields()) {
            boolean ofClass = Modifier.isStatic(field.getModifiers());
            boolean constant = Modifier.isFinal(field.getModifiers()) && STATIC_TYPES.contains(field.getType());
            Due.holds("rule 5: " + field, !ofClass || constant);
            ofObjects += ofClass ? 0 : 1;
        }
        Due.holds("rule 11: the fields of " + each.getSimpleName(), ofObjects <= MOST_FIELDS);
    }

    private static void parameters(Class<?> each) {
        for (Method method : each.getDeclaredMethods()) {
            Due.holds("rule 11: " + method, method.getParameterCount() <= MOST_PARAMETERS);
        }
        for (Constructor<?> constructor : each.getDeclaredConstructors()) {
            Due.holds("rule 11: " + constructor, constructor.getParameterCount() <= MOST_PARAMETERS);
        }
    }

    private static void names() {
        Set<String> visible = new TreeSet<>();
        for (Method method : BarCodes.class.getMethods()) {
            visible.add(method.getName());
        }
        for (Class<?> each : allClasses()) {
            for (Method method : each.getDeclaredMethods()) {
                boolean hidden = Modifier.isPrivate(method.getModifiers());
                Due.holds("rule 1: the name of " + method, !hidden || !visible.contains(method.getName()));
            }
        }
    }
}
