import java.io.IOException;
import java.lang.reflect.Method;
import java.net.URL;
import java.net.URLClassLoader;
import java.nio.file.Files;
import java.nio.file.Path;
import java.util.ArrayList;
import java.util.HashSet;
import java.util.List;
import java.util.Set;
import java.util.function.Supplier;
import java.util.regex.Matcher;
import java.util.regex.Pattern;
import java.util.stream.Stream;
import javax.tools.ToolProvider;

/** README.md: its examples are compiled as they stand there and must answer as they say; its tables must be whole. */
public final class ReadmeTest {
    private static final String EXAMPLES = "ReadmeExamples";
    private static final Pattern BLOCK = Pattern.compile("```java\n(.*?)```", Pattern.DOTALL);
    // A call of the face and, behind //, its answer; what stands behind a comma there explains it.
    private static final Pattern ROW = Pattern.compile("(x\\.(\\w+)\\(.*\\));\\s*// ([^,]+)(,.*)?");
    private static final Pattern TEXT = Pattern.compile("\\| `([ex]\\d\\S*)` \\| (\\d+) \\|.*");

    public static void main(String[] args) throws IOException, ReflectiveOperationException {
        String readme = Files.readString(Path.of("README.md"));
        List<String> blocks = blocks(readme);
        everyMethodIsShown(blocks, readme);
        everyTestIsNamed(readme);
        textsAreRight(readme);
        runExamples(blocks);
        Check.finish("ReadmeTest");
    }

    private static List<String> blocks(String readme) {
        List<String> blocks = new ArrayList<>();
        Matcher block = BLOCK.matcher(readme);
        while (block.find()) {
            blocks.add(block.group(1));
        }
        return blocks;
    }

    private static void everyMethodIsShown(List<String> blocks, String readme) {
        Set<String> shown = new HashSet<>();
        Set<String> answers = new HashSet<>();
        for (String line : String.join("\n", blocks).split("\n")) {
            Matcher row = ROW.matcher(line);
            if (row.matches()) {
                shown.add(row.group(2));
                answers.add(row.group(3));
            } else {
                Check.isTrue("an answer is told: " + line, !line.startsWith("x."));
            }
        }
        for (Method method : RuleTracer.class.getDeclaredMethods()) {
            if (java.lang.reflect.Modifier.isPublic(method.getModifiers())) {
                String name = method.getName();
                Check.isTrue("an example shows " + name, shown.contains(name));
                Check.isTrue("the table tells of " + name, readme.contains("\n| `" + name + "("));
                for (Class<?> thrown : method.getExceptionTypes()) {
                    Check.isTrue("an example throws " + thrown, answers.contains("throws " + thrown.getSimpleName()));
                }
            }
        }
    }

    private static void everyTestIsNamed(String readme) throws IOException {
        Check.isTrue("how to run the tests", readme.contains("\n.ci/run\n"));
        try (Stream<Path> files = Files.list(Path.of("src/test/java"))) {
            files.map(file -> file.getFileName().toString()).filter(name -> name.endsWith("Test.java")).forEach(name ->
                Check.isTrue("README.md names " + name, readme.contains(name.replace(".java", ""))));
        }
    }

    private static void textsAreRight(String readme) {
        int texts = 0;
        for (String line : readme.split("\n")) {
            Matcher text = TEXT.matcher(line);
            if (text.matches()) {
                texts++;
                int actions = Check.compile(new RuleTracer(), 0, text.group(1));
                Check.same(text.group(1), actions, Integer.parseInt(text.group(2)));
            }
        }
        Check.isTrue("README.md shows texts", texts > 0);
    }

    private static void runExamples(List<String> blocks) throws IOException, ReflectiveOperationException {
        Path directory = Files.createTempDirectory("readme");
        Path source = directory.resolve(EXAMPLES + ".java");
        Files.writeString(source, sourceOf(blocks));
        String here = System.getProperty("java.class.path");
        int refused = ToolProvider.getSystemJavaCompiler().run(null, null, null,
            "-cp", here, "-d", directory.toString(), source.toString());
        Check.same("the examples compile", refused, 0);
        if (refused == 0) {
            try (URLClassLoader loader = new URLClassLoader(new URL[] {directory.toUri().toURL()})) {
                loader.loadClass(EXAMPLES).getMethod("all").invoke(null);
            }
        }
        try (Stream<Path> files = Files.list(directory)) {
            files.forEach(file -> file.toFile().delete());
        }
        Files.delete(directory);
    }

    /** A block that declares a method is taken as it is; each other one becomes the body of a method. */
    private static String sourceOf(List<String> blocks) {
        StringBuilder members = new StringBuilder();
        StringBuilder all = new StringBuilder();
        for (String block : blocks) {
            if (block.startsWith("static ")) {
                members.append(block);
            } else {
                String name = "example" + all.length();
                all.append(name).append("();\n");
                members.append("static void ").append(name).append("() {\n").append(asked(block)).append("}\n");
            }
        }
        return "public final class " + EXAMPLES + " {\n" + members + "public static void all() {\n" + all + "}\n}\n";
    }

    private static String asked(String block) {
        StringBuilder lines = new StringBuilder();
        for (String line : block.split("\n")) {
            Matcher row = ROW.matcher(line);
            lines.append(!row.matches() ? line : "ReadmeTest.row(\"" + row.group(1) + "\", () -> " + row.group(1)
                + ", \"" + row.group(3) + "\");").append('\n');
        }
        return lines.toString();
    }

    /** Called by the examples. */
    public static void row(String call, Supplier<Object> made, String due) {
        String got;
        try {
            got = made.get().toString();
        } catch (RuntimeException e) {
            got = "throws " + e.getClass().getSimpleName();
        }
        Check.same("README.md: " + call, got, due);
    }
}
