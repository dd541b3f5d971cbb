import java.lang.reflect.Method;
import java.lang.reflect.Modifier;
import java.net.URL;
import java.net.URLClassLoader;
import java.nio.file.Files;
import java.nio.file.Path;
import java.util.regex.Matcher;
import java.util.regex.Pattern;

/** README.md: its examples answer what stands behind them, and its tables name every call with its arguments. */
public final class ReadmeTest extends Due {
    private static final Path PAGE = Path.of("README.md");
    private static final Pattern BLOCK = Pattern.compile("```java\n(.*?)```", Pattern.DOTALL);
    private static final Pattern ANSWER =
        Pattern.compile("(?m)^(int|boolean) (\\w+) = (.*;) +// (-?\\d+|true|false): .*$");

    public static void main(String[] args) throws Exception {
        String page = Files.readString(PAGE);
        tablesNameEveryCall(page);
        runExamples(page);
        finish();
    }

    private static void tablesNameEveryCall(String page) {
        for (Method m : ThreeDots.class.getDeclaredMethods()) {
            if (Modifier.isPublic(m.getModifiers())) {
                Matcher row = Pattern.compile("(?m)^\\| `" + m.getName() + "\\((.*?)\\)` \\|").matcher(page);
                boolean named = row.find();
                due("README.md names " + m.getName(), named, true);
                int told = !named || row.group(1).isEmpty() ? 0 : row.group(1).split(", ").length;
                due("arguments of " + m.getName() + " in README.md", told, m.getParameterCount());
            }
        }
    }

    private static void runExamples(String page) throws Exception {
        Path folder = Files.createTempDirectory("readme");
        Path source = folder.resolve("ReadmeExamples.java");
        Files.writeString(source, exampleClass(page));
        // The same javac that .ci/run calls: the java that runs this may come without one.
        int compiled = new ProcessBuilder("javac", "-cp", System.getProperty("java.class.path"),
            "-d", folder.toString(), source.toString()).inheritIO().start().waitFor();
        due("compiling the examples of README.md", compiled, 0);
        if (compiled == 0) {
            URL[] places = {folder.toUri().toURL()};
            try (URLClassLoader loader = new URLClassLoader(places, ReadmeTest.class.getClassLoader())) {
                Object got = loader.loadClass("ReadmeExamples").getMethod("wrong").invoke(null);
                due("answers of README.md that are not due:" + got, got.toString().length(), 0);
            }
        }
        for (String left : new String[] {"ReadmeExamples.class", "ReadmeExamples.java", "."}) {
            Files.deleteIfExists(folder.resolve(left).normalize());
        }
    }

    /** Statements of all examples in their order as one method, methods beside it. */
    private static String exampleClass(String page) {
        StringBuilder statements = new StringBuilder();
        StringBuilder methods = new StringBuilder();
        Matcher block = BLOCK.matcher(page);
        int answers = 0;
        while (block.find()) {
            String code = block.group(1);
            if (code.startsWith("static ")) {
                methods.append(code);
                continue;
            }
            answers += (int) ANSWER.matcher(code).results().count();
            statements.append(ANSWER.matcher(code).replaceAll(
                "$1 $2 = $3 if ($2 != $4) { told += \" $2 is \" + $2 + \", not $4;\"; }"));
        }
        due("examples of README.md with an answer", answers, 15);
        return "public final class ReadmeExamples {\n" + methods
            + "public static String wrong() {\nString told = \"\";\n" + statements + "return told;\n}\n}\n";
    }
}
