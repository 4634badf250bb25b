import java.lang.reflect.Field;
import java.lang.reflect.Method;
import java.lang.reflect.Modifier;
import java.nio.file.Files;
import java.nio.file.Path;
import java.util.ArrayList;
import java.util.List;
import java.util.Set;
import java.util.TreeSet;
import java.util.regex.Matcher;
import java.util.regex.Pattern;

/** Those rules of ../shared/LANGUAGE.md that can be seen in the words and members of the program. */
final class LanguageTest {
    private static final Path PROGRAM = Path.of("src/main/java/PennantRopes.java");
    /** By the rules 2, 4, 6 and 10; a try, equals and toString are allowed in places, and not needed so far. */
    private static final String[] RULED_OUT = {"package", "import", "finally", "synchronized", "assert", "catch", "try",
        "equals", "hashCode", "toString", "volatile", "native", "Double", "Float", "\\w+Exact", "->", "::", "\"\\s*\\+",
        "\\+\\s*\"", "static\\s*\\{", "(?<=throw )(?!new )\\w"};
    private static final Set<String> EXCEPTIONS = Set.of("IllegalStateException", "IllegalArgumentException",
        "IndexOutOfBoundsException", "ArithmeticException", "UnsupportedOperationException", "NoSuchElementException",
        "RuntimeException");
    private static final Set<String> LIBRARY = Set.of("Math", "Integer", "Long", "System", "Arrays", "List");
    private static final int MOST_CLASSES = 12;
    private static final int MOST_FIELDS = 20;
    private static final int MOST_PARAMETERS = 7;
    private static final int MOST_LINES = 60;

    private LanguageTest() {
    }

    public static void main(String[] args) throws Exception {
        String source = Files.readString(PROGRAM);
        String words = source.replaceAll("(?s)/\\*.*?\\*/", "").replaceAll("//.*", "").replaceAll("\"[^\"]*\"", "\"\"");
        for (String word : RULED_OUT) {
            String bounded = Character.isLetter(word.charAt(0)) ? "\\b" + word + "\\b" : word;
            Check.sameText("what is ruled out as " + word, found(words, bounded).toString(), "[]");
        }
        Class<?>[] inside = PennantRopes.class.getDeclaredClasses();
        Check.same("some twelve classes", inside.length < MOST_CLASSES ? 1 : 0, 1);
        names(words, inside);
        members(PennantRopes.class);
        for (Class<?> one : inside) {
            Check.same(one + " is static, and not public", one.getModifiers() & (Modifier.STATIC | Modifier.PUBLIC), Modifier.STATIC);
            members(one);
        }
        privateNames();
        methodLengths(words);
        Check.end();
    }

    private static TreeSet<String> found(String words, String pattern) {
        TreeSet<String> found = new TreeSet<>();
        Matcher matcher = Pattern.compile(pattern).matcher(words);
        while (matcher.find()) {
            found.add(matcher.group());
        }
        return found;
    }

    /** What is called by the name of a class, and what is made, is the program's own or of rules 4 and 6. */
    private static void names(String words, Class<?>[] inside) {
        Set<String> own = new TreeSet<>();
        for (Class<?> one : inside) {
            own.add(one.getSimpleName());
        }
        for (String name : found(words, "\\b[A-Z]\\w*(?=\\.\\w)")) {
            Check.same("class " + name, own.contains(name) || LIBRARY.contains(name) ? 1 : 0, 1);
        }
        for (String name : found(words, "(?<=new )[A-Z]\\w*(?=\\()")) {
            Check.same("new " + name, own.contains(name) || EXCEPTIONS.contains(name) ? 1 : 0, 1);
        }
    }

    /** Rules 5 and 11. */
    private static void members(Class<?> one) {
        int fields = 0;
        for (Field field : one.getDeclaredFields()) {
            int modifiers = field.getModifiers();
            fields += Modifier.isStatic(modifiers) ? 0 : 1;
            Check.same(field + " is final if it is static", Modifier.isStatic(modifiers) && !Modifier.isFinal(modifiers) ? 0 : 1, 1);
        }
        Check.same("some twenty fields of " + one, fields <= MOST_FIELDS ? 1 : 0, 1);
        for (Method method : one.getDeclaredMethods()) {
            Check.same("seven parameters of " + method, method.getParameterCount() <= MOST_PARAMETERS ? 1 : 0, 1);
        }
    }

    /** Rule 1. */
    private static void privateNames() {
        List<String> shown = new ArrayList<>();
        for (Method method : PennantRopes.class.getDeclaredMethods()) {
            if (Modifier.isPublic(method.getModifiers())) {
                shown.add(method.getName());
            }
        }
        for (Method method : PennantRopes.class.getDeclaredMethods()) {
            boolean hidden = Modifier.isPrivate(method.getModifiers());
            Check.same("the private name " + method, hidden && shown.contains(method.getName()) ? 0 : 1, 1);
        }
    }

    /** Rule 11; a method ends with a brace as deep as it begins. */
    private static void methodLengths(String words) {
        Matcher method = Pattern.compile("(?ms)^( {4}| {8})(?!new |return |throw )\\w[^;{}=]*\\([^;{}]*\\)[^;{}]*\\{$.*?^\\1\\}$").matcher(words);
        int methods = 0;
        while (method.find()) {
            methods++;
            long lines = method.group().lines().count();
            Check.same("lines of " + method.group().lines().findFirst().orElse(""), lines <= MOST_LINES ? 1 : 0, 1);
        }
        Check.same("methods", methods > PennantRopes.class.getDeclaredMethods().length ? 1 : 0, 1);
    }
}
