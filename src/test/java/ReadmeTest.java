import java.io.IOException;
import java.io.StringWriter;
import java.lang.reflect.InvocationTargetException;
import java.lang.reflect.Method;
import java.lang.reflect.Modifier;
import java.net.URL;
import java.net.URLClassLoader;
import java.nio.file.Files;
import java.nio.file.Path;
import java.util.ArrayList;
import java.util.Comparator;
import java.util.List;
import java.util.NoSuchElementException;
import java.util.concurrent.Callable;
import java.util.regex.Matcher;
import java.util.regex.Pattern;
import java.util.stream.Stream;
import javax.tools.JavaCompiler;
import javax.tools.StandardJavaFileManager;
import javax.tools.ToolProvider;

/** The example in README.md compiles, answers what README.md says, and shows every call; the tests that it lists are there. */
public final class ReadmeTest {
    private static final Path README = Path.of("README.md");
    private static final Path TESTS = Path.of("src", "test", "java");
    private static final String PROGRAM = "ReadmeExample";
    /** A call, and behind // its answer, which words may follow. */
    private static final Pattern CALL = Pattern.compile("(\\S.*);\\s*// (throws \\w+|true|false|-?\\d+)(: .*)?");
    private static final Pattern MADE = Pattern.compile("NamesUnder x = new NamesUnder\\(\\);");

    private ReadmeTest() {
    }

    /** What a call of the example answered, or that it threw what a face may throw. */
    public static void hold(String call, String due, Callable<Object> asked) throws Exception {
        String got;
        try {
            got = String.valueOf(asked.call());
        } catch (NoSuchElementException e) {
            got = "throws NoSuchElementException";
        }
        Check.so("README.md: " + call + " answers " + due + " (answered: " + got + ")", got.equals(due));
    }

    /** The lines of each block of Java in README.md. */
    private static List<List<String>> blocks(List<String> lines) {
        List<List<String>> all = new ArrayList<>();
        List<String> open = null;
        for (String line : lines) {
            if (line.equals("```java")) {
                open = new ArrayList<>();
                all.add(open);
            } else if (line.equals("```")) {
                open = null;
            } else if (open != null) {
                open.add(line);
            }
        }
        return all;
    }

    /** The example as a program; what is no call with its answer, no object made and no method is a fault of README.md. */
    private static String program(List<List<String>> blocks) {
        StringBuilder members = new StringBuilder();
        StringBuilder calls = new StringBuilder();
        for (List<String> block : blocks) {
            if (!block.isEmpty() && block.get(0).startsWith("static ")) {
                members.append(String.join("\n", block)).append('\n');
            } else {
                block.forEach(line -> calls.append(statement(line)));
            }
        }
        return "public final class " + PROGRAM + " {\n" + members
                + "public static void run() throws Exception {\n" + calls + "}\n}\n";
    }

    private static String statement(String line) {
        Matcher call = CALL.matcher(line);
        if (call.matches()) {
            String shown = call.group(1).replace("\\", "\\\\").replace("\"", "\\\"");
            return "ReadmeTest.hold(\"" + shown + "\", \"" + call.group(2) + "\", () -> " + call.group(1) + ");\n";
        }
        Check.so("README.md says what this answers: " + line, line.isBlank() || MADE.matcher(line).matches());
        return line + "\n";
    }

    private static void run(String program) throws Exception {
        Path room = Files.createTempDirectory("readme");
        try {
            Path source = room.resolve(PROGRAM + ".java");
            Files.writeString(source, program);
            StringWriter said = new StringWriter();
            boolean compiled = compile(source, room, said);
            Check.so("the example in README.md compiles: " + said, compiled);
            if (compiled) {
                call(room);
            }
        } finally {
            clear(room);
        }
    }

    private static boolean compile(Path source, Path room, StringWriter said) throws IOException {
        JavaCompiler compiler = ToolProvider.getSystemJavaCompiler();
        if (compiler == null) {
            said.append("this Java has no compiler");
            return false;
        }
        List<String> options = List.of("-d", room.toString(), "-cp", System.getProperty("java.class.path"));
        try (StandardJavaFileManager files = compiler.getStandardFileManager(null, null, null)) {
            return compiler.getTask(said, files, null, options, null, files.getJavaFileObjects(source)).call();
        }
    }

    private static void call(Path room) throws Exception {
        URL[] path = {room.toUri().toURL()};
        try (URLClassLoader loader = new URLClassLoader(path, ReadmeTest.class.getClassLoader())) {
            loader.loadClass(PROGRAM).getMethod("run").invoke(null);
        } catch (InvocationTargetException e) {
            Check.so("the example in README.md goes to its end: " + e.getCause(), false);
        }
    }

    private static void clear(Path room) throws IOException {
        try (Stream<Path> all = Files.walk(room)) {
            for (Path path : all.sorted(Comparator.reverseOrder()).toList()) {
                Files.delete(path);
            }
        }
    }

    private static void checkFaceIsShown(String example) {
        for (Method m : NamesUnder.class.getDeclaredMethods()) {
            if (Modifier.isPublic(m.getModifiers())) {
                Check.so("README.md shows a call of " + m.getName(), example.contains("x." + m.getName() + "("));
            }
        }
        Check.so("README.md shows NONE", example.contains("NamesUnder.NONE"));
    }

    private static void checkTestsAreListed(String readme) throws IOException {
        List<String> there = new ArrayList<>();
        try (Stream<Path> all = Files.list(TESTS)) {
            all.map(path -> path.getFileName().toString()).filter(name -> name.endsWith("Test.java"))
                    .forEach(name -> there.add(name.replace(".java", "")));
        }
        for (String name : there) {
            Check.so("README.md tells of " + name, readme.contains("`" + name + "`"));
        }
        Matcher told = Pattern.compile("`(\\w+Test)`").matcher(readme);
        while (told.find()) {
            Check.so(told.group(1) + ", of which README.md tells, is there", there.contains(told.group(1)));
        }
    }

    public static void main(String[] args) throws Exception {
        List<List<String>> blocks = blocks(Files.readAllLines(README));
        String program = program(blocks);
        run(program);
        checkFaceIsShown(program);
        checkTestsAreListed(Files.readString(README));
        Check.end();
    }
}
