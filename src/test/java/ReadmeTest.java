import java.io.ByteArrayOutputStream;
import java.io.File;
import java.io.IOException;
import java.io.PrintStream;
import java.lang.reflect.Field;
import java.lang.reflect.Method;
import java.lang.reflect.Modifier;
import java.net.URL;
import java.net.URLClassLoader;
import java.nio.file.Files;
import java.nio.file.Path;
import java.util.ArrayList;
import java.util.List;
import java.util.regex.Matcher;
import java.util.regex.Pattern;
import javax.tools.ToolProvider;

/** README.md: its program prints what stands behind each line that prints, and nothing is left out. */
public final class ReadmeTest {
    private static final Check check = new Check("ReadmeTest");

    public static void main(String[] args) throws IOException, ReflectiveOperationException {
        String page = Files.readString(Path.of("README.md"));
        String example = between(page, "```java\n", "```");
        check.due("what the program prints", String.join("\n", printed(example)), String.join("\n", told(example)));
        names(page);
        tests(page);
        check.end();
    }

    private static String between(String page, String start, String end) {
        int from = page.indexOf(start) + start.length();
        return page.substring(from, page.indexOf(end, from));
    }

    /** What the page says that each line prints. */
    private static List<String> told(String example) {
        List<String> lines = new ArrayList<>();
        Matcher matcher = Pattern.compile("System\\.out\\.println\\(.*\\);( *// (.*))?").matcher(example);
        while (matcher.find()) lines.add(matcher.group(2));
        check.holds("the program prints something", !lines.isEmpty());
        return lines;
    }

    private static List<String> printed(String example) throws IOException, ReflectiveOperationException {
        Path folder = Files.createTempDirectory("readme");
        Path file = folder.resolve("Example.java");
        try {
            Files.writeString(file, example);
            String[] how = {"-Xlint:all", "-Werror", "-cp", System.getProperty("java.class.path"), file.toString()};
            boolean compiles = ToolProvider.getSystemJavaCompiler().run(null, null, null, how) == 0;
            check.holds("the program compiles", compiles);
            return compiles ? outputOf(folder) : List.of();
        } finally {
            for (File left : folder.toFile().listFiles()) left.delete();
            Files.delete(folder);
        }
    }

    private static List<String> outputOf(Path folder) throws IOException, ReflectiveOperationException {
        ByteArrayOutputStream bytes = new ByteArrayOutputStream();
        PrintStream screen = System.out;
        System.setOut(new PrintStream(bytes, true));
        try (URLClassLoader loader = new URLClassLoader(new URL[] {folder.toUri().toURL()})) {
            loader.loadClass("Example").getMethod("main", String[].class).invoke(null, (Object) new String[0]);
        } finally {
            System.setOut(screen);
        }
        return bytes.toString().lines().toList();
    }

    /** Each call and constant of the class stands in a table, each constant with its number. */
    private static void names(String page) throws ReflectiveOperationException {
        for (Method call : PostalLines.class.getDeclaredMethods()) {
            if (!Modifier.isPublic(call.getModifiers())) continue;
            check.holds("a table tells " + call.getName(), inTable(page, "`" + call.getName() + "`"));
        }
        List<String> numbers = new ArrayList<>();
        Matcher row = Pattern.compile("(?m)^\\| ([`A-Z, ]+) \\| ([-0-9, ]+) \\|").matcher(page);
        while (row.find()) {
            String[] constants = row.group(1).replace("`", "").split(", ");
            String[] values = row.group(2).split(", ");
            for (int i = 0; i < constants.length; i++) numbers.add(constants[i] + " " + values[i]);
        }
        for (Field constant : PostalLines.class.getFields()) {
            String want = constant.getName() + " " + constant.getInt(null);
            check.holds("a table tells " + want, numbers.contains(want));
        }
    }

    /** The page names the way to run the tests, and each of them. */
    private static void tests(String page) {
        check.holds("the page tells .ci/run", between(page, "## How to run its tests\n", "|").startsWith("\n    .ci/run\n"));
        check.holds(".ci/run can be run", Files.isExecutable(Path.of(".ci/run")));
        List<String> there = new ArrayList<>();
        for (File file : new File("src/test/java").listFiles()) there.add(file.getName().replace(".java", ""));
        for (String name : there) {
            String known = name.endsWith("Test") ? "| `" + name + "` |" : "`" + name + "`";
            check.holds("the page tells " + name, page.contains(known));
        }
        Matcher row = Pattern.compile("(?m)^\\| `([A-Za-z]+Test)` \\|").matcher(page);
        while (row.find()) check.holds("there is a test " + row.group(1), there.contains(row.group(1)));
    }

    private static boolean inTable(String page, String words) {
        return page.lines().anyMatch(line -> line.startsWith("|") && line.contains(words));
    }
}
