import java.io.IOException;
import java.lang.reflect.Method;
import java.lang.reflect.Modifier;
import java.net.URL;
import java.net.URLClassLoader;
import java.nio.charset.StandardCharsets;
import java.nio.file.Files;
import java.nio.file.Path;
import java.nio.file.Paths;
import java.util.ArrayList;
import java.util.Arrays;
import java.util.List;
import java.util.Set;
import java.util.TreeSet;
import java.util.regex.Matcher;
import java.util.regex.Pattern;
import java.util.stream.Collectors;
import javax.tools.ToolProvider;

/** README.md tells the class as it is: its example is compiled and run, and its table of calls has the whole face. */
public final class ReadmeTest {
    private static final Check CHECK = new Check("ReadmeTest");

    public static void main(String[] args) throws Exception {
        String readme = Files.readString(Paths.get("README.md"), StandardCharsets.UTF_8);
        calls(readme);
        example(readme);
        testsAreTold(readme);
        CHECK.finish();
    }

    /** A call with the types of its parameters and its exceptions, as in "int want(int) IndexOutOfBoundsException". */
    private static void calls(String readme) {
        Set<String> told = new TreeSet<>();
        Matcher rows = Pattern.compile("(?m)^\\| `(int|boolean|void) (\\w+)\\((.*?)\\)` \\|[^|]*\\|([^|]*)\\|$").matcher(readme);
        while (rows.find()) {
            String types = rows.group(3).replaceAll("(int|boolean) \\w+", "$1").replace(" ", "");
            String thrown = Arrays.stream(rows.group(4).split("[;:]"))
                .map(String::trim).filter(part -> part.endsWith("Exception")).collect(Collectors.joining(" "));
            told.add(rows.group(1) + " " + rows.group(2) + "(" + types + ") " + thrown);
        }
        Set<String> face = new TreeSet<>();
        for (Method method : BellTown.class.getDeclaredMethods()) {
            if (Modifier.isPublic(method.getModifiers())) {
                String types = Arrays.stream(method.getParameterTypes()).map(Class::getName).collect(Collectors.joining(","));
                String thrown = Arrays.stream(method.getExceptionTypes()).map(Class::getSimpleName).collect(Collectors.joining(" "));
                face.add(method.getReturnType() + " " + method.getName() + "(" + types + ") " + thrown);
            }
        }
        CHECK.due("the calls in the table", told.toString(), face.toString());
    }

    private static List<String> blocksOf(String readme) {
        List<String> blocks = new ArrayList<>();
        Matcher found = Pattern.compile("(?s)```java\n(.*?)```").matcher(readme);
        while (found.find()) {
            blocks.add(found.group(1));
        }
        return blocks;
    }

    /** Each call with an answer behind it becomes a row "call", "what it answered", "what is told". */
    private static void example(String readme) throws Exception {
        List<String> blocks = blocksOf(readme);
        CHECK.due("blocks of Java", blocks.size(), 2);
        String body = Pattern.compile("(?m)^(town\\.[^;]*);\\s*// (?:throws )?([\\w-]+).*$").matcher(blocks.get(1)).replaceAll(row ->
            "try { rows.add(new String[] {\"" + row.group(1) + "\", \"\" + " + row.group(1) + ", \"" + row.group(2) + "\"}); }"
            + " catch (RuntimeException thrown) { rows.add(new String[] {\"" + row.group(1)
            + "\", thrown.getClass().getSimpleName(), \"" + row.group(2) + "\"}); }");
        String source = "import java.util.*; public final class ReadmeExample {" + blocks.get(0)
            + "public static List<String[]> rows() { List<String[]> rows = new ArrayList<>();\n" + body + "return rows; } }";
        List<String[]> rows = rowsOf(source);
        CHECK.due("answers in the example", rows.size(), blocks.get(1).split("; +// ", -1).length - 1);
        for (String[] row : rows) {
            CHECK.due(row[0], row[1], row[2]);
        }
    }

    @SuppressWarnings("unchecked")
    private static List<String[]> rowsOf(String source) throws Exception {
        Path folder = Files.createTempDirectory("readme");
        Path file = folder.resolve("ReadmeExample.java");
        Files.writeString(file, source, StandardCharsets.UTF_8);
        int failed = ToolProvider.getSystemJavaCompiler().run(null, null, null, "-cp", System.getProperty("java.class.path"),
            "-d", folder.toString(), file.toString());
        CHECK.due("compiling the example", failed, 0);
        try (URLClassLoader loader = new URLClassLoader(new URL[] {folder.toUri().toURL()}, ReadmeTest.class.getClassLoader())) {
            return (List<String[]>) loader.loadClass("ReadmeExample").getMethod("rows").invoke(null);
        } finally {
            Files.deleteIfExists(folder.resolve("ReadmeExample.class"));
            Files.delete(file);
            Files.delete(folder);
        }
    }

    private static void testsAreTold(String readme) throws IOException {
        try (var files = Files.list(Paths.get("src/test/java"))) {
            for (String name : files.map(file -> file.getFileName().toString().replace(".java", "")).sorted().toList()) {
                CHECK.due(name + " is told", readme.contains("`" + name + "`") || readme.contains("`" + name + ".java`"), true);
            }
        }
    }
}
