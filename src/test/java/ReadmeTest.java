import java.io.ByteArrayOutputStream;
import java.io.IOException;
import java.io.PrintStream;
import java.lang.reflect.InvocationTargetException;
import java.lang.reflect.Method;
import java.net.URL;
import java.net.URLClassLoader;
import java.nio.file.Files;
import java.nio.file.Path;
import java.util.ArrayList;
import java.util.List;
import java.util.regex.Matcher;
import java.util.regex.Pattern;
import java.util.stream.Stream;
import javax.tools.ToolProvider;

/** The program that README.md shows compiles, answers as its comments say, and uses every call. */
public final class ReadmeTest {
    private static final Path README = Path.of("README.md");
    private static final String PROGRAM = "Example";
    private static final Pattern PRINTED =
        Pattern.compile("\\s*System\\.out\\.println\\((.*)\\);\\s*// ([^\\s:]+)(:.*)?");

    private static int wrong = 0;

    public static void main(String[] args) throws Exception {
        List<String> program = programOf(Files.readAllLines(README));
        everyLineThatPrintsTellsItsAnswer(program);
        everyCallIsShown(program);
        everyAnswerIsAsShown(program);
        System.out.println(wrong == 0 ? "all answers are as due" : wrong + " faults in README.md");
        if (wrong != 0) {
            System.exit(1);
        }
    }

    private static void report(String text) {
        wrong++;
        System.out.println(text);
    }

    /** What stands between the marks of code in Java: README.md has one such piece. */
    private static List<String> programOf(List<String> lines) {
        List<String> program = new ArrayList<>();
        int begun = 0;
        boolean inside = false;
        for (String line : lines) {
            if (line.equals("```java")) {
                begun++;
                inside = true;
            } else if (line.startsWith("```")) {
                inside = false;
            } else if (inside) {
                program.add(line);
            }
        }
        if (begun != 1 || inside) {
            report("README.md begins " + begun + " pieces of Java, due is 1 with an end");
        }
        return program;
    }

    private static void everyLineThatPrintsTellsItsAnswer(List<String> program) {
        for (String line : program) {
            if (line.contains("mesh.") && !PRINTED.matcher(line).matches()) {
                report("no answer is told with: " + line.strip());
            }
        }
    }

    private static void everyCallIsShown(List<String> program) {
        String text = String.join("\n", program);
        for (Method method : ExactMesh.class.getMethods()) {
            if (method.getDeclaringClass() == ExactMesh.class && !text.contains("mesh." + method.getName() + "(")) {
                report("README.md does not show " + method.getName());
            }
        }
    }

    private static void everyAnswerIsAsShown(List<String> program) throws IOException {
        List<String> got = printedBy(program);
        int n = 0;
        for (String line : program) {
            Matcher printed = PRINTED.matcher(line);
            if (printed.matches()) {
                String answer = n < got.size() ? got.get(n) : "nothing";
                if (!answer.equals(printed.group(2))) {
                    report(printed.group(1) + " answered " + answer + ", README.md says " + printed.group(2));
                }
                n++;
            }
        }
        if (n == 0 || got.size() != n) {
            report("the program printed " + got.size() + " lines, README.md says " + n);
        }
    }

    private static List<String> printedBy(List<String> program) throws IOException {
        Path directory = Files.createTempDirectory("readme");
        try {
            Path source = directory.resolve(PROGRAM + ".java");
            Files.write(source, program);
            int failed = ToolProvider.getSystemJavaCompiler().run(null, null, null,
                "-cp", System.getProperty("java.class.path"), "-d", directory.toString(), source.toString());
            if (failed != 0) {
                report("the program in README.md does not compile");
                return List.of();
            }
            return printedByClassIn(directory);
        } finally {
            remove(directory);
        }
    }

    private static List<String> printedByClassIn(Path directory) throws IOException {
        ByteArrayOutputStream bytes = new ByteArrayOutputStream();
        URL[] places = {directory.toUri().toURL()};
        try (URLClassLoader loader = new URLClassLoader(places, ReadmeTest.class.getClassLoader())) {
            runInto(bytes, loader.loadClass(PROGRAM).getMethod("main", String[].class));
        } catch (InvocationTargetException thrown) {
            report("the program in README.md threw " + thrown.getCause());
        } catch (ReflectiveOperationException absent) {
            report("the program in README.md cannot be run: " + absent);
        }
        return bytes.toString().lines().toList();
    }

    private static void runInto(ByteArrayOutputStream bytes, Method main) throws ReflectiveOperationException {
        PrintStream before = System.out;
        System.setOut(new PrintStream(bytes, true));
        try {
            main.invoke(null, (Object) new String[0]);
        } finally {
            System.setOut(before);
        }
    }

    private static void remove(Path directory) throws IOException {
        try (Stream<Path> files = Files.list(directory)) {
            for (Path file : files.toList()) {
                Files.delete(file);
            }
        }
        Files.delete(directory);
    }
}
