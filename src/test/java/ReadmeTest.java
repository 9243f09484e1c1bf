import java.lang.reflect.Method;
import java.lang.reflect.Modifier;
import java.net.URL;
import java.net.URLClassLoader;
import java.nio.file.Files;
import java.nio.file.Path;
import java.util.Comparator;
import java.util.List;
import java.util.regex.Matcher;
import java.util.regex.Pattern;
import java.util.stream.Stream;
import javax.tools.JavaCompiler;
import javax.tools.ToolProvider;

/** README.md: its example gives the answers that it tells, and it names every method and every test. */
public final class ReadmeTest {
    private static final Pattern EXAMPLE = Pattern.compile("(?s)```java\n(.*?)```");
    private static final Pattern ANSWERED = Pattern.compile("(?m)^(o\\.\\w+\\(.*\\)); +// (-?\\d+|[A-Z]+)\\b.*$");
    private static int wrong = 0;

    private static void check(boolean holds, String what) {
        if (!holds) {
            wrong++;
            System.out.println("not so: " + what);
        }
    }

    public static void main(String[] args) throws Exception {
        String readme = Files.readString(Path.of("README.md"));
        for (Method m : OneReturns.class.getDeclaredMethods()) {
            check(!Modifier.isPublic(m.getModifiers()) || readme.contains("`" + m.getName() + "`"), "README.md names " + m.getName());
        }
        testsAreNamed(readme);
        Matcher example = EXAMPLE.matcher(readme);
        check(example.find(), "README.md has an example");
        if (wrong == 0) {
            runExample(example.group(1));
        }
        System.out.println(wrong == 0 ? "README.md is as due" : wrong + " faults");
        if (wrong != 0) {
            System.exit(1);
        }
    }

    private static void testsAreNamed(String readme) throws Exception {
        try (Stream<Path> files = Files.list(Path.of("src/test/java"))) {
            for (Path file : files.toList()) {
                String name = file.getFileName().toString().replace(".java", "");
                check(readme.contains("- `" + name + "`: "), "README.md says what " + name + " does");
            }
        }
    }

    /** Each call with an answer beside it becomes a question; the other lines stay as they are. */
    private static void runExample(String code) throws Exception {
        List<String> untold = code.lines().filter(line -> line.startsWith("o.") && !ANSWERED.matcher(line).matches()).toList();
        check(untold.isEmpty(), "an answer stands beside each call: " + untold);
        String asked = ANSWERED.matcher(code).replaceAll(found -> Matcher.quoteReplacement("due(\"" + found.group(1) + "\", " + found.group(1)
            + ", " + (Character.isLetter(found.group(2).charAt(0)) ? "OneReturns." : "") + found.group(2) + ");"));
        String source = "public final class Example {\n"
            + "static int wrong = 0;\n"
            + "static void due(String call, int got, int want) { if (got != want) { wrong++; System.out.println(call + \" answered \" + got + \", README.md says \" + want); } }\n"
            + "public static int faults() {\n" + asked + "return wrong;\n}\n}\n";
        Path directory = Files.createTempDirectory("readme");
        try {
            Path file = Files.writeString(directory.resolve("Example.java"), source);
            check(compiles(file, directory), "the example compiles");
            if (wrong == 0) {
                wrong += faultsOf(directory);
            }
        } finally {
            remove(directory);
        }
    }

    private static boolean compiles(Path file, Path directory) {
        JavaCompiler compiler = ToolProvider.getSystemJavaCompiler();
        return compiler != null && compiler.run(null, System.out, System.out, "-cp", System.getProperty("java.class.path"),
            "-d", directory.toString(), file.toString()) == 0;
    }

    private static int faultsOf(Path directory) throws Exception {
        try (URLClassLoader loader = new URLClassLoader(new URL[] {directory.toUri().toURL()}, ReadmeTest.class.getClassLoader())) {
            return (Integer) loader.loadClass("Example").getMethod("faults").invoke(null);
        }
    }

    private static void remove(Path directory) throws Exception {
        try (Stream<Path> files = Files.walk(directory)) {
            for (Path file : files.sorted(Comparator.reverseOrder()).toList()) {
                Files.delete(file);
            }
        }
    }
}
