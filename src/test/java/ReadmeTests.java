import java.io.IOException;
import java.io.StringWriter;
import java.lang.reflect.InvocationTargetException;
import java.lang.reflect.Method;
import java.lang.reflect.Modifier;
import java.net.URL;
import java.net.URLClassLoader;
import java.nio.file.Files;
import java.nio.file.Path;
import java.util.ArrayList;
import java.util.Comparator;
import java.util.List;
import java.util.regex.Matcher;
import java.util.regex.Pattern;
import java.util.stream.Stream;
import javax.tools.JavaCompiler;
import javax.tools.ToolProvider;

/** What README.md shows is so: each example compiles, and each call in it answers what stands behind it. */
public final class ReadmeTests {
    private static final Path README = Path.of("README.md");
    private static final Path PROJECT_TESTS = Path.of("src/test/java");
    private static final String START = "ReachFlow x = new ReachFlow();";
    private static final Pattern CALL =
        Pattern.compile("(?:int (\\w+) = )?(x\\.(\\w+)\\([^;]*\\));\\s*//\\s*(-?\\w+)(?:: \\S.*)?");
    private static int wrong = 0;
    private static int calls = 0;

    private static void fail(String what) {
        wrong++;
        System.out.println(what);
    }

    /** The compiled examples call this, so it can't be private. */
    public static void due(String place, Object got, Object want) {
        calls++;
        if (!got.equals(want)) {
            fail(place + " answered " + got + ", README.md shows " + want);
        }
    }

    private static String shown(String answer) {
        return answer.matches("NONE|BAD|FULL|NO") ? "ReachFlow." + answer : answer;
    }

    /** An example's line as it stands, and behind it a comparison of what it answered. */
    private static String compared(String line, int number) {
        if (line.isBlank() || line.equals(START)) {
            return line + "\n";
        }
        Matcher call = CALL.matcher(line);
        if (!call.matches()) {
            fail("README.md, line " + number + " is no call with its answer: " + line);
            return line + "\n";
        }
        String place = "\"line " + number + ": " + call.group(2) + "\"";
        String got = call.group(1);
        String ahead = "";
        if (got == null) {
            got = "got" + number;
            ahead = "var " + got + " = ";
        }
        return ahead + line + "\nReadmeTests.due(" + place + ", " + got + ", " + shown(call.group(4)) + ");\n";
    }

    /** The bodies of the examples, one for each block of Java. */
    private static List<String> examples(List<String> lines) {
        List<String> found = new ArrayList<>();
        StringBuilder body = null;
        for (int i = 0; i < lines.size(); i++) {
            String line = lines.get(i);
            if (line.equals("```java")) {
                body = new StringBuilder();
            } else if (line.equals("```") && body != null) {
                found.add(body.toString());
                body = null;
            } else if (body != null) {
                body.append(compared(line, i + 1));
            }
        }
        return found;
    }

    private static void run(String name, String body, Path work) throws IOException, ReflectiveOperationException {
        Path source = work.resolve(name + ".java");
        Files.writeString(source, "public final class " + name + " {\npublic static void run() {\n" + body + "}\n}\n");
        JavaCompiler compiler = ToolProvider.getSystemJavaCompiler();
        StringWriter said = new StringWriter();
        List<String> options = List.of("-d", work.toString(), "-cp", System.getProperty("java.class.path"));
        try (var files = compiler.getStandardFileManager(null, null, null)) {
            if (!compiler.getTask(said, files, null, options, null, files.getJavaFileObjects(source)).call()) {
                fail("an example of README.md does not compile:\n" + said + body);
                return;
            }
        }
        URL[] places = {work.toUri().toURL()};
        try (URLClassLoader loader = new URLClassLoader(places, ReadmeTests.class.getClassLoader())) {
            loader.loadClass(name).getMethod("run").invoke(null);
        } catch (InvocationTargetException e) {
            fail("an example of README.md threw " + e.getCause() + ":\n" + body);
        }
    }

    private static void runAll(List<String> examples) throws IOException, ReflectiveOperationException {
        Path work = Files.createTempDirectory("readme");
        try {
            for (int i = 0; i < examples.size(); i++) {
                run("Example" + i, examples.get(i), work);
            }
        } finally {
            try (Stream<Path> made = Files.walk(work)) {
                made.sorted(Comparator.reverseOrder()).forEach(path -> path.toFile().delete());
            }
        }
    }

    private static void namesAll(String text, String examples) throws IOException {
        for (Method m : ReachFlow.class.getDeclaredMethods()) {
            boolean open = !Modifier.isPrivate(m.getModifiers());
            if (open && !text.contains("`" + m.getName() + "`")) {
                fail("README.md does not tell of " + m.getName() + "()");
            }
            if (open && !examples.contains("x." + m.getName() + "(")) {
                fail("README.md shows no answer of " + m.getName() + "()");
            }
        }
        try (Stream<Path> tests = Files.list(PROJECT_TESTS)) {
            tests.map(path -> path.getFileName().toString().replace(".java", ""))
                .filter(name -> !text.contains("`" + name + "`"))
                .forEach(name -> fail("README.md does not tell of " + name));
        }
        if (!text.contains(".ci/run")) {
            fail("README.md does not say how to run the tests");
        }
    }

    public static void main(String[] args) throws IOException, ReflectiveOperationException {
        List<String> lines = Files.readAllLines(README);
        List<String> examples = examples(lines);
        runAll(examples);
        namesAll(String.join("\n", lines), String.join("\n", examples));
        if (calls == 0) {
            fail("README.md shows no answer");
        }
        System.out.println(examples.size() + " examples, " + calls + " answers");
        System.out.println(wrong == 0 ? "README.md shows what is so" : wrong + " faults");
        System.exit(wrong == 0 ? 0 : 1);
    }
}
