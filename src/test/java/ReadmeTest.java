import java.io.IOException;
import java.lang.reflect.Method;
import java.lang.reflect.Modifier;
import java.net.URL;
import java.net.URLClassLoader;
import java.nio.file.Files;
import java.nio.file.Path;
import java.util.ArrayList;
import java.util.List;
import java.util.regex.Matcher;
import java.util.regex.Pattern;
import java.util.stream.Stream;
import javax.tools.ToolProvider;

/** README.md's examples answer what it says behind their //; it names every call and every test. */
public final class ReadmeTest {
    private static final Pattern BLOCK = Pattern.compile("(?s)```java\n(.*?)```");
    private static final Pattern ANSWERED =
        Pattern.compile("(int \\w+ = )?(\\w+\\.\\w+\\(.*\\));\\s+// (-?\\d+|true|false)\\b.*");

    private static int looked = 0;
    private static int wrong = 0;

    public static void main(String[] args) throws IOException, ReflectiveOperationException {
        String page = Files.readString(Path.of("README.md"));
        names(page);
        runExamples(page);
        System.out.println(looked + " things of README.md looked at, " + wrong + " wrong");
        if (wrong != 0 || looked < 90) {
            System.exit(1);
        }
    }

    /** Called by the examples, too. */
    public static void due(String what, Object got, Object want) {
        looked++;
        if (!String.valueOf(got).equals(String.valueOf(want))) {
            wrong++;
            System.out.println("README.md: " + what + " answered " + got + ", it says " + want);
        }
    }

    private static void names(String page) throws IOException {
        for (Method m : SlipDrawer.class.getDeclaredMethods()) {
            if (Modifier.isPublic(m.getModifiers())) {
                due("the call " + m.getName(), page.contains("`" + m.getName() + "`"), true);
            }
        }
        try (Stream<Path> files = Files.list(Path.of("src/test/java"))) {
            for (Path file : files.toList()) {
                String name = file.getFileName().toString().replace(".java", "");
                due("the file " + name, page.contains("`" + name + "`"), true);
            }
        }
    }

    private static void runExamples(String page) throws IOException, ReflectiveOperationException {
        StringBuilder helpers = new StringBuilder();
        StringBuilder steps = new StringBuilder();
        Matcher blocks = BLOCK.matcher(page);
        while (blocks.find()) {
            String block = blocks.group(1);
            if (block.startsWith("static ")) {
                helpers.append(block);
            } else {
                block.lines().forEach(line -> steps.append(asked(line)).append('\n'));
            }
        }
        Path folder = Files.createTempDirectory("readme");
        List<Path> made = new ArrayList<>(List.of(folder));
        try {
            Path source = folder.resolve("ReadmeExamples.java");
            made.add(source);
            made.add(folder.resolve("ReadmeExamples.class"));
            Files.writeString(source, "public final class ReadmeExamples {\n" + helpers
                + "public static void run() {\n" + steps + "}\n}\n");
            compileAndRun(folder, source);
        } finally {
            for (int i = made.size() - 1; i >= 0; i--) {
                Files.deleteIfExists(made.get(i));
            }
        }
    }

    /** A line of an example as it is run: with a look at its answer, if it tells one. */
    private static String asked(String line) {
        Matcher answered = ANSWERED.matcher(line);
        if (!answered.matches()) {
            return line;
        }
        String what = "\"" + answered.group(2).replace("\"", "'") + "\"";
        String want = answered.group(3);
        if (answered.group(1) == null) {
            return "ReadmeTest.due(" + what + ", " + answered.group(2) + ", " + want + ");";
        }
        String name = answered.group(1).split(" ")[1];
        return line + "\nReadmeTest.due(" + what + ", " + name + ", " + want + ");";
    }

    private static void compileAndRun(Path folder, Path source) throws IOException, ReflectiveOperationException {
        String classes = System.getProperty("java.class.path");
        int failed = ToolProvider.getSystemJavaCompiler().run(null, null, null,
            "-cp", classes, "-d", folder.toString(), source.toString());
        due("the compiler", failed, 0);
        if (failed == 0) {
            URL[] places = {folder.toUri().toURL()};
            try (URLClassLoader loader = new URLClassLoader(places, ReadmeTest.class.getClassLoader())) {
                loader.loadClass("ReadmeExamples").getMethod("run").invoke(null);
            }
        }
    }
}
