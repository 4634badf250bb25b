import java.io.IOException;
import java.lang.reflect.Method;
import java.lang.reflect.Modifier;
import java.net.URL;
import java.net.URLClassLoader;
import java.nio.file.Files;
import java.nio.file.Path;
import java.util.ArrayList;
import java.util.List;
import java.util.regex.Matcher;
import java.util.regex.Pattern;
import javax.tools.ToolProvider;

/** README.md: its pieces of Java run and answer what their comments tell, and what it names is there. */
public final class ReadmeTest {
    private static final Path README = Path.of("README.md");
    private static final String EXAMPLE = "ReadmeExample";
    /** A call alone on its line, with its answer or its exception ahead in the comment. */
    private static final Pattern ANSWERED = Pattern.compile("(x\\.\\w+\\(.*\\)); +// (-?\\d[\\d.]*|\\w+Exception): .+");
    private static final Pattern COMMENTED = Pattern.compile("x\\..*// .*");
    private static final Pattern PATH = Pattern.compile("`((?:\\.\\./|\\.ci/|src/)[\\w./]+)`");

    private ReadmeTest() {
    }

    public static void main(String[] args) throws Exception {
        List<String> lines = Files.readAllLines(README);
        List<List<String>> pieces = pieces(lines, "```java");
        Check.same("pieces of Java", pieces.isEmpty() ? 0 : 1, 1);
        run(exampleOf(pieces));
        eachCallIsShown(pieces);
        namedFilesAreThere(lines);
        Check.sameText("the way to run the tests", pieces(lines, "```sh").toString(), "[[.ci/run]]");
        Check.same(".ci/run can be run", Files.isExecutable(Path.of(".ci/run")) ? 1 : 0, 1);
        Check.end();
    }

    /** What the example calls for a line with an answer; an answer stands there as Java tells it. */
    public static void due(String line, Object got, String due) {
        Check.sameText(line, String.valueOf(got), due);
    }

    /** What the example calls for a line with an exception. */
    public static void fails(String line, PennantRopes x, Class<? extends RuntimeException> due, Runnable call) {
        Check.fails(line, x, due, () -> {
            call.run();
            return 0;
        });
    }

    private static List<List<String>> pieces(List<String> lines, String fence) {
        List<List<String>> pieces = new ArrayList<>();
        boolean inside = false;
        for (String line : lines) {
            if (line.equals(fence)) {
                inside = true;
                pieces.add(new ArrayList<>());
            } else if (line.equals("```")) {
                inside = false;
            } else if (inside) {
                pieces.get(pieces.size() - 1).add(line);
            }
        }
        return pieces;
    }

    private static String exampleOf(List<List<String>> pieces) {
        StringBuilder source = new StringBuilder("public final class " + EXAMPLE + " {\n");
        source.append("    public static void main(String[] args) {\n");
        for (List<String> piece : pieces) {
            source.append("{\n");
            for (String line : piece) {
                source.append(checked(line)).append('\n');
            }
            source.append("}\n");
        }
        return source.append("    }\n}\n").toString();
    }

    private static String checked(String line) {
        Matcher answered = ANSWERED.matcher(line);
        if (!answered.matches()) {
            boolean untold = COMMENTED.matcher(line).matches() && !line.startsWith("x.digest()");
            Check.same("an answer behind \"" + line + "\"", untold ? 0 : 1, 1);
            return line;
        }
        String call = answered.group(1);
        String due = answered.group(2);
        String told = "\"" + line.replace("\\", "\\\\").replace("\"", "\\\"") + "\"";
        if (due.endsWith("Exception")) {
            return "ReadmeTest.fails(" + told + ", x, " + due + ".class, () -> " + call + ");";
        }
        return "ReadmeTest.due(" + told + ", " + call + ", \"" + due + "\");";
    }

    private static void run(String source) throws Exception {
        Path build = Files.createTempDirectory("readme");
        Path file = build.resolve(EXAMPLE + ".java");
        try {
            Files.writeString(file, source);
            int wrong = ToolProvider.getSystemJavaCompiler().run(null, null, null,
                "-cp", System.getProperty("java.class.path"), "-d", build.toString(), file.toString());
            Check.same("compiling the pieces of Java", wrong, 0);
            if (wrong == 0) {
                runCompiled(build);
            }
        } finally {
            Files.deleteIfExists(file);
            Files.deleteIfExists(build.resolve(EXAMPLE + ".class"));
            Files.delete(build);
        }
    }

    private static void runCompiled(Path build) throws IOException, ReflectiveOperationException {
        URL[] path = {build.toUri().toURL()};
        try (URLClassLoader loader = new URLClassLoader(path, ReadmeTest.class.getClassLoader())) {
            loader.loadClass(EXAMPLE).getMethod("main", String[].class).invoke(null, (Object) new String[0]);
        }
    }

    private static void eachCallIsShown(List<List<String>> pieces) {
        String shown = pieces.toString();
        for (Method method : PennantRopes.class.getDeclaredMethods()) {
            if (Modifier.isPublic(method.getModifiers())) {
                Check.same(method.getName() + " is shown", shown.contains("x." + method.getName() + "(") ? 1 : 0, 1);
            }
        }
    }

    private static void namedFilesAreThere(List<String> lines) {
        Matcher path = PATH.matcher(String.join("\n", lines));
        while (path.find()) {
            Check.same(path.group(1) + " is there", Files.exists(Path.of(path.group(1))) ? 1 : 0, 1);
        }
    }
}
