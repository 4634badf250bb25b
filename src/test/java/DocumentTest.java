import java.lang.reflect.Constructor;
import java.lang.reflect.Field;
import java.lang.reflect.Method;
import java.lang.reflect.Modifier;
import java.nio.file.Files;
import java.nio.file.Path;
import java.util.ArrayList;
import java.util.Arrays;
import java.util.LinkedHashMap;
import java.util.List;
import java.util.Map;
import java.util.TreeSet;

/**
 * The document itself: the class has the face that it tells, each sentence of it has a test, and each
 * test's sentence stands in it.
 */
final class DocumentTest {
    private static final Class<?>[] TESTS = {TermsSentencesTest.class, HuesAndRopesSentencesTest.class,
        ChangesSentencesTest.class, TextsSentencesTest.class, UndoSentencesTest.class, LooksSentencesTest.class,
        WouldBeSentencesTest.class};
    /** Lines that are titles, without the signs of one. */
    private static final List<String> TITLES = List.of("Hues, ropes", "Undo, the snapshot");
    /** Sections that promise nothing that a call could answer; the face has a test of its own. */
    private static final List<String> WITHOUT_TEST = List.of("PennantRopes", "The public face", "Not promised");
    /** Sentences that tell what the others tell again, and how they are put in order. */
    private static final List<String> BEGINNINGS_WITHOUT_TEST = List.of("Pennant ropes on which", "Ahead of the calls");

    public static void main(String[] args) throws Exception {
        List<String> lines = Files.readAllLines(Path.of("../shared/DOC.md"));
        face(lines);
        Map<String, List<String>> sections = sections(lines);
        Check.same("sections", sections.size() > 31 ? 1 : 0, 1);
        List<Sentence> tested = tested();
        for (Sentence test : tested) {
            String section = String.join("\n", sections.getOrDefault(test.of(), List.of()));
            Check.same(test.of() + " says \"" + test.says() + "\"", section.contains(test.says()) ? 1 : 0, 1);
        }
        for (Map.Entry<String, List<String>> section : sections.entrySet()) {
            for (String sentence : section.getValue()) {
                hasTest(section.getKey(), sentence, tested);
            }
        }
        Check.end();
    }

    private static List<Sentence> tested() {
        List<Sentence> tested = new ArrayList<>();
        for (Class<?> tests : TESTS) {
            for (Method method : tests.getDeclaredMethods()) {
                if (method.isAnnotationPresent(Sentence.class)) {
                    tested.add(method.getAnnotation(Sentence.class));
                }
            }
        }
        return tested;
    }

    private static void hasTest(String section, String sentence, List<Sentence> tested) {
        boolean found = WITHOUT_TEST.contains(section) || BEGINNINGS_WITHOUT_TEST.stream().anyMatch(sentence::startsWith);
        for (Sentence test : tested) {
            found = found || test.of().equals(section) && (sentence.contains(test.says()) || test.says().contains(sentence));
        }
        Check.same(section + ", a test of \"" + sentence + "\"", found ? 1 : 0, 1);
    }

    /** The sentences below each title; a signature ahead of a promise's words is not one. */
    private static Map<String, List<String>> sections(List<String> lines) {
        Map<String, List<String>> sections = new LinkedHashMap<>();
        String title = "";
        for (String line : lines) {
            if (line.startsWith("#") || TITLES.contains(line)) {
                title = line.replaceFirst("^#+ ", "").replaceFirst("^(Promise \\d+): .*", "$1");
                sections.put(title, new ArrayList<>());
            } else if (!line.isBlank()) {
                String words = line.replaceFirst("^- ", "").replaceFirst("^`[^`]*\\([^`]*`: ", "");
                sections.get(title).addAll(Arrays.asList(words.split("(?<=\\.|\\.\\)) (?=[A-Z(])")));
            }
        }
        return sections;
    }

    private static void face(List<String> lines) {
        TreeSet<String> due = new TreeSet<>();
        for (String line : lines) {
            if (line.startsWith("    public ")) {
                due.add(line.strip().replace(";", "").replaceAll("(int|long) \\w+([,)])", "$1$2"));
            }
        }
        Check.same("lines of the face", due.size() > 30 ? 1 : 0, 1);
        Check.sameText("the face", shown().toString(), due.toString());
        Check.sameText("the class", Modifier.toString(PennantRopes.class.getModifiers()), "public final");
    }

    /** All that is not private, and not a class. */
    private static TreeSet<String> shown() {
        TreeSet<String> shown = new TreeSet<>();
        for (Constructor<?> constructor : PennantRopes.class.getDeclaredConstructors()) {
            addShown(shown, constructor.getModifiers(), constructor.toString());
        }
        for (Method method : PennantRopes.class.getDeclaredMethods()) {
            addShown(shown, method.getModifiers(), method.toString());
        }
        for (Field field : PennantRopes.class.getDeclaredFields()) {
            addShown(shown, field.getModifiers(), field.toString() + " = " + PennantRopes.NONE);
        }
        return shown;
    }

    private static void addShown(TreeSet<String> shown, int modifiers, String member) {
        if (!Modifier.isPrivate(modifiers)) {
            shown.add(member.replace("PennantRopes.", "").replace("java.lang.", "").replaceAll(",(\\w)", ", $1"));
        }
    }
}
