import java.lang.reflect.Method;
import java.net.URL;
import java.net.URLClassLoader;
import java.nio.file.Files;
import java.nio.file.Path;
import java.util.ArrayList;
import java.util.List;
import java.util.regex.Matcher;
import java.util.regex.Pattern;
import java.util.stream.Stream;
import javax.tools.JavaCompiler;
import javax.tools.ToolProvider;

/**
 * README.md's own example calls answer as README.md says. Its java blocks are compiled as they stand there: one that
 * begins with "static" is a method, all others are one run. Runs in the project's folder.
 */
public final class ReadmeTest {
    private static final Pattern BLOCK = Pattern.compile("(?s)```java\n(.*?)```");
    private static final Pattern MADE = Pattern.compile("ButtonTin \\w+ = new ButtonTin\\(\\);");
    private static final Pattern ASKED = Pattern.compile("(\\S.*\\)); +// (NONE|UNKNOWN|OUTSIDE|NOT|FULL|-?\\d+)(:.*)?");

    private final List<String> calls = new ArrayList<>();
    private final StringBuilder methods = new StringBuilder();
    private final StringBuilder run = new StringBuilder();

    private void read(String readme) {
        Matcher block = BLOCK.matcher(readme);
        while (block.find()) {
            if (block.group(1).startsWith("static ")) {
                methods.append(block.group(1));
            } else {
                block.group(1).lines().filter(line -> !line.isBlank()).forEach(this::readLine);
            }
        }
    }

    private void readLine(String line) {
        Matcher asked = ASKED.matcher(line);
        if (asked.matches()) {
            String due = asked.group(2);
            calls.add(asked.group(1));
            run.append("rows.add(new int[] {").append(asked.group(1)).append(", ")
                .append(Character.isUpperCase(due.charAt(0)) ? "ButtonTin." + due : due).append("});\n");
        } else {
            Check.holds("README.md: '" + line + "' makes an object or says what it answers", MADE.matcher(line).matches());
            run.append(line).append('\n');
        }
    }

    private String source() {
        return "public final class ReadmeExample {\n" + methods
            + "public static java.util.List<int[]> run() {\njava.util.List<int[]> rows = new java.util.ArrayList<>();\n"
            + run + "return rows;\n}\n}\n";
    }

    private List<?> answers(Path folder) throws Exception {
        Path file = Files.writeString(folder.resolve("ReadmeExample.java"), source());
        JavaCompiler compiler = ToolProvider.getSystemJavaCompiler();
        int failed = compiler == null ? 1 : compiler.run(null, null, null, "-Xlint:all", "-Werror",
            "-cp", System.getProperty("java.class.path"), "-d", folder.toString(), file.toString());
        Check.due("README.md's example is compiled", failed, 0);
        if (failed != 0) {
            return List.of();
        }
        try (URLClassLoader loader = new URLClassLoader(new URL[] {folder.toUri().toURL()})) {
            Method method = loader.loadClass("ReadmeExample").getMethod("run");
            return (List<?>) method.invoke(null);
        }
    }

    private void checkAnswers() throws Exception {
        Path folder = Files.createTempDirectory("readme");
        List<?> rows = answers(folder);
        try (Stream<Path> files = Files.list(folder)) {
            for (Path file : files.toList()) {
                Files.delete(file);
            }
        }
        Files.delete(folder);
        Check.due("README.md's calls that answered", rows.size(), calls.size());
        for (int i = 0; i < rows.size(); i++) {
            int[] row = (int[]) rows.get(i);
            Check.due("README.md: " + calls.get(i), row[0], row[1]);
        }
    }

    /** How to use the class is said of each call, in a row of a table and by an example. */
    private void checkAllCalls(String readme) {
        for (String call : FaceTest.CALLS) {
            String name = call.split(" ")[0];
            Check.holds("README.md has a row for " + name, readme.contains("| `" + name + "("));
            Check.holds("README.md has an example of " + name, (methods + "\n" + run).contains("x." + name + "("));
        }
    }

    private static void checkAllTests(String readme) throws Exception {
        try (Stream<Path> files = Files.list(Path.of("src/test/java"))) {
            for (Path file : files.toList()) {
                String name = file.getFileName().toString().replace(".java", "");
                Check.holds("README.md names " + name, readme.contains("`" + name + "`"));
            }
        }
    }

    public static void main(String[] args) throws Exception {
        String readme = Files.readString(Path.of(args.length > 0 ? args[0] : "README.md"));
        ReadmeTest test = new ReadmeTest();
        test.read(readme);
        test.checkAnswers();
        test.checkAllCalls(readme);
        checkAllTests(readme);
        Check.finish();
    }
}
